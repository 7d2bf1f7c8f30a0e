import java.lang.management.ManagementFactory;
import java.lang.reflect.Constructor;
import java.lang.reflect.Field;
import java.lang.reflect.Method;
import java.lang.reflect.Modifier;
import java.util.ArrayList;
import java.util.Arrays;
import java.util.List;
import java.util.Set;
import java.util.TreeSet;

/** The face is the document's, what is inside is hidden as LANGUAGE.md wants it, and calls make next to nothing. */
public final class LanguageTest {
    private static final String[] FACE = {"int wall()", "int pitch(int,int,int,int)", "int ice(int,int)",
        "int climber(int,int,int,int)", "int type(int)", "int clear()", "int read()", "int sag(int,int)",
        "int rest(int,int)", "int go()", "int undo()", "int of(int,int)", "int hangs(int,int)", "int says(int)",
        "int path(int)", "int by(int,int)", "int canSay(int)", "int mine(int)", "int tied(int,int)",
        "int cut(int,int)", "int rests(int,int)", "int note(int,int)", "int forget()", "int stones(int)",
        "int is(int)", "int look(int)", "int slips(int,int)", "int walls(int,int,int)", "long part(int)",
        "int image(int)", "int from(int)", "int status(int)", "int count(int)", "long digest()"};

    private static int wrong = 0;

    public static void main(String[] args) throws Exception {
        face();
        insideClasses();
        room();
        System.out.println(wrong == 0 ? "the rules are kept" : wrong + " rules are not kept");
        if (wrong != 0) {
            System.exit(1);
        }
    }

    private static void check(boolean so, String what) {
        if (!so) {
            wrong++;
            System.out.println("not so: " + what);
        }
    }

    private static String face(Method m) {
        StringBuilder b = new StringBuilder(m.getReturnType() + " " + m.getName() + "(");
        for (Class<?> c : m.getParameterTypes()) {
            b.append(b.charAt(b.length() - 1) == '(' ? "" : ",").append(c);
        }
        return b.append(')').toString();
    }

    private static void face() throws Exception {
        check(Modifier.isPublic(RopeLaw.class.getModifiers()), "the class is public");
        check(Modifier.isFinal(RopeLaw.class.getModifiers()), "the class is final");
        Set<String> found = new TreeSet<>();
        for (Method m : RopeLaw.class.getDeclaredMethods()) {
            if (Modifier.isPublic(m.getModifiers())) {
                found.add(face(m));
                check(!Modifier.isStatic(m.getModifiers()), m + " is not static");
            } else {
                check(Modifier.isPrivate(m.getModifiers()), m + " is private");
            }
        }
        check(found.equals(new TreeSet<>(Arrays.asList(FACE))), "the public methods are the document's: " + found);
        for (Field f : RopeLaw.class.getDeclaredFields()) {
            boolean constant = Arrays.asList("NONE", "BAD", "NO", "FULL").contains(f.getName());
            check(constant ? Modifier.isPublic(f.getModifiers()) : Modifier.isPrivate(f.getModifiers()), f.toString());
        }
        check(RopeLaw.NONE == -1 && RopeLaw.BAD == -2 && RopeLaw.NO == -3 && RopeLaw.FULL == -4, "the constants");
        Constructor<?>[] made = RopeLaw.class.getDeclaredConstructors();
        check(made.length == 1 && Modifier.isPublic(made[0].getModifiers()) && made[0].getParameterCount() == 0,
            "one public constructor");
    }

    private static void insideClasses() {
        Set<String> names = new TreeSet<>();
        for (String f : FACE) {
            names.add(f.substring(f.indexOf(' ') + 1, f.indexOf('(')));
        }
        List<Class<?>> all = new ArrayList<>(List.of(RopeLaw.class.getDeclaredClasses()));
        check(all.size() <= 12, "at most twelve classes");
        for (Class<?> c : all) {
            check(Modifier.isStatic(c.getModifiers()), c + " is static");
            check(!Modifier.isPublic(c.getModifiers()) && !Modifier.isProtected(c.getModifiers()), c + " is not public");
        }
        all.add(RopeLaw.class);
        for (Class<?> c : all) {
            int fields = 0;
            for (Field f : c.getDeclaredFields()) {
                boolean shared = Modifier.isStatic(f.getModifiers());
                check(!shared || Modifier.isFinal(f.getModifiers()), f + " is final");
                fields += shared ? 0 : 1;
            }
            check(fields <= 20, c + " has at most twenty fields");
            for (Method m : c.getDeclaredMethods()) {
                check(m.getParameterCount() <= 7, m + " takes at most seven");
                check(Modifier.isPublic(m.getModifiers()) || !names.contains(m.getName()),
                    m + " does not bear the name of a public one");
            }
        }
    }

    /** What the dearest calls make is counted, for all calls of a run live in one room. */
    private static void room() {
        com.sun.management.ThreadMXBean bean = (com.sun.management.ThreadMXBean) ManagementFactory.getThreadMXBean();
        long sum = dearCalls(new RopeLaw());
        long id = Thread.currentThread().getId();
        long before = bean.getThreadAllocatedBytes(id);
        RopeLaw x = new RopeLaw();
        long object = bean.getThreadAllocatedBytes(id) - before;
        check(object < 16000, "an object makes few rows, not " + object + " bytes");
        before = bean.getThreadAllocatedBytes(id);
        sum += dearCalls(x);
        long made = bean.getThreadAllocatedBytes(id) - before;
        check(made < 20000, "calls make next to nothing, not " + made + " bytes");
        check(sum != 0, "the calls were made");
    }

    private static long dearCalls(RopeLaw x) {
        String text = "wall;climber 0 9 1 3;climber 4 20 1 2;climber 3 8 0 1;climber 5 30 0;climber 2 7 2 0 1 2;";
        for (int i = 0; i < text.length(); i++) {
            x.type(text.charAt(i));
        }
        long sum = 0;
        for (int i = 0; i < 25; i++) {
            sum += x.read() + x.tied(i % 5, 0) + x.by(8, 1) + x.mine(i % 5) + x.walls(i, 60, 4) + x.look(i % 5)
                + x.slips(i % 5, 3) + x.image(i & 1) + x.from(i & 1) + x.sag(1, 1) + x.path(3) + x.undo()
                + x.rests(0, 4) + x.cut(1, 1) + x.digest();
        }
        return sum;
    }
}
