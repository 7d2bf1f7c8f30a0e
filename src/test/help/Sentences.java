import java.io.IOException;
import java.lang.reflect.InvocationTargetException;
import java.lang.reflect.Method;
import java.nio.file.Files;
import java.nio.file.Path;
import java.util.ArrayList;
import java.util.Comparator;
import java.util.List;
import java.util.Set;
import java.util.TreeSet;
import java.util.function.LongSupplier;

/**
 * Runs the tests of a class that bear a {@link Sentence}, each by itself, and looks up its words in the
 * document, lest a test tell what is not written there.
 */
abstract class Sentences {
    static final int PLAIN = 0, LIGHT = 1, GUIDE = 2, FAT = 3, SHORT = 4, LEADER = 5;
    static final int LOWEST = Integer.MIN_VALUE, GREATEST = Integer.MAX_VALUE;

    private static int wrong = 0;
    private static String now = "";

    /** The arguments are the program's source and the document, as .ci/run tells them. */
    static void run(Class<?> tests, int firstPromise, int lastPromise, String[] args) throws Exception {
        String document = args.length > 1 ? textOf(Path.of(args[1])) : "";
        Set<Integer> promises = new TreeSet<>();
        List<Method> all = inOrder(tests);
        for (Method test : all) {
            Sentence sentence = test.getAnnotation(Sentence.class);
            for (int p : sentence.promise()) {
                promises.add(p);
            }
            now = "promise " + promiseOf(test) + ", '" + sentence.says() + "'";
            if (!document.isEmpty() && !document.contains(sentence.says())) {
                tell("the document does not say so");
            }
            runOne(test);
        }
        for (int p = firstPromise; p <= lastPromise; p++) {
            now = "promise " + p;
            if (!promises.contains(p)) {
                tell("no sentence of it has a test");
            }
        }
        System.out.println(wrong == 0 ? all.size() + " sentences hold" : wrong + " answers are not as due");
        if (wrong != 0) {
            System.exit(1);
        }
    }

    private static String textOf(Path document) throws IOException {
        if (!Files.isRegularFile(document)) {
            System.out.println("no document at " + document + ": its words are not looked up");
            return "";
        }
        return Files.readString(document);
    }

    private static List<Method> inOrder(Class<?> tests) {
        List<Method> all = new ArrayList<>();
        for (Method m : tests.getDeclaredMethods()) {
            if (m.isAnnotationPresent(Sentence.class)) {
                all.add(m);
            }
        }
        all.sort(Comparator.comparingInt((Method m) -> m.getAnnotation(Sentence.class).promise()[0])
            .thenComparing(Method::getName));
        return all;
    }

    private static String promiseOf(Method test) {
        StringBuilder b = new StringBuilder();
        for (int p : test.getAnnotation(Sentence.class).promise()) {
            b.append(b.length() == 0 ? "" : ", ").append(p);
        }
        return b.toString();
    }

    private static void runOne(Method test) throws IllegalAccessException {
        try {
            test.invoke(null);
        } catch (InvocationTargetException e) {
            tell("the test was broken off by " + e.getCause());
        }
    }

    private static void tell(String what) {
        wrong++;
        System.out.println(now + ": " + what);
    }

    // ---- what the tests use

    static void due(String what, long got, long want) {
        if (got != want) {
            tell(what + " answered " + got + ", due is " + want);
        }
    }

    /** A refused call changes nothing but its own reason's number. */
    private static void refused(Counted x, int reason, String what, LongSupplier call, long want) {
        long digest = x.digest();
        int[] status = {x.status(0), x.status(1), x.status(2)};
        due(what, call.getAsLong(), want);
        status[reason]++;
        for (int i = 0; i < 3; i++) {
            due(what + ", then status(" + i + ")", x.status(i), status[i]);
        }
        due(what + ", then digest()", x.digest(), digest);
    }

    static void bad(Counted x, String what, LongSupplier call) {
        refused(x, 0, what, call, RopeLaw.BAD);
    }

    /** BAD, where the document tells another number for it. */
    static void bad(Counted x, long answer, String what, LongSupplier call) {
        refused(x, 0, what, call, answer);
    }

    static void no(Counted x, String what, LongSupplier call) {
        refused(x, 1, what, call, RopeLaw.NO);
    }

    static void full(Counted x, String what, LongSupplier call) {
        refused(x, 2, what, call, RopeLaw.FULL);
    }

    /** A call that changes nothing, and is not counted as refused, whatever it answers. */
    static void asks(Counted x, String what, LongSupplier call, long want) {
        long digest = x.digest();
        int[] status = {x.status(0), x.status(1), x.status(2)};
        due(what, call.getAsLong(), want);
        for (int i = 0; i < 3; i++) {
            due(what + ", then status(" + i + ")", x.status(i), status[i]);
        }
        due(what + ", then digest()", x.digest(), digest);
    }

    /** As many climbers as told, of whom nothing is to be known. */
    static Counted withClimbers(int n) {
        Counted x = new Counted();
        for (int c = 0; c < n; c++) {
            x.climber(PLAIN, 1, 0, 0);
        }
        return x;
    }

    static void goTo(Counted x, int p) {
        for (int i = 0; i < 8 && x.count(1) < p; i++) {
            x.go();
        }
        due("they are at", x.count(1), p);
    }

    static void type(Counted x, String text) {
        for (int i = 0; i < text.length(); i++) {
            x.type(text.charAt(i));
        }
    }

    static Counted typed(String text) {
        Counted x = new Counted();
        type(x, text);
        return x;
    }

    /** A new object into which a text without a fault has been read. */
    static Counted wallOf(String text, int items) {
        Counted x = typed(text);
        due("read() of '" + text + "'", x.read(), items);
        return x;
    }

    static void fault(String text, int place) {
        Counted x = typed(text);
        asks(x, "read() of '" + text + "'", x::read, -10 - place);
    }

    static void fractionIs(Counted x, String what, long above, long below) {
        due(what + ": above", x.part(0), above);
        due(what + ": below", x.part(1), below);
    }
}
