import java.math.BigInteger;
import java.util.ArrayDeque;
import java.util.ArrayList;
import java.util.Arrays;
import java.util.Deque;
import java.util.List;
import java.util.Random;
import java.util.regex.Matcher;
import java.util.regex.Pattern;

/**
 * Long runs of calls by a fixed seed, each answer held against a second program, written from the
 * document by itself, in the slowest and plainest way.
 */
public final class ModelTest {
    private static final String[] NAMES = {"wall", "pitch", "ice", "climber", "type", "clear", "read", "sag", "rest",
        "go", "undo", "of", "hangs", "says", "path", "by", "canSay", "mine", "tied", "cut", "rests", "note", "forget",
        "stones", "is", "look", "slips", "walls", "part", "image", "from", "status", "count", "digest"};
    private static final int[] OFTEN = {1, 10, 6, 12, 2, 1, 3, 14, 12, 8, 5, 4, 6, 6, 6, 10, 5, 5, 8, 6, 6, 10, 1,
        6, 6, 6, 8, 6, 3, 2, 2, 2, 3, 6};
    private static final int[] EDGES = {-2, -1, 0, 1, 2, 3, 4, 5, 6, 7, 8, 9, 10, 11, 30, 31, 60, 61, 127, 128, 255,
        256, 999999, 1000000, -10, Integer.MIN_VALUE, Integer.MAX_VALUE};

    private static final int RUNS = 6000;
    private static final int MOST_BYTES = 150;

    public static void main(String[] args) {
        int wrong = 0;
        for (int run = 0; run < RUNS && wrong < 10; run++) {
            wrong += oneRun(run) ? 0 : 1;
        }
        System.out.println(wrong == 0 ? "all runs are as the model's" : wrong + " runs are not as the model's");
        if (wrong != 0) {
            System.exit(1);
        }
    }

    private static boolean oneRun(int run) {
        Random dice = new Random(run * 7919L + 1);
        int wildness = run % 4 == 0 ? 12 : 60;
        Counted x = new Counted();
        Model model = new Model();
        List<String> done = new ArrayList<>();
        // The call itself, and the digest behind it.
        while (x.left() >= 2) {
            int which = pick(dice);
            if (NAMES[which].equals("read") && x.left() > MOST_BYTES + 3) {
                typeBoth(x, model, someText(dice), done);
            }
            int[] a = arguments(which, dice, model, wildness);
            long want = model.call(which, a);
            long got = callReal(x, which, a);
            done.add(NAMES[which] + Arrays.toString(a) + " = " + got);
            long digest = x.digest();
            if (got != want || digest != model.digest()) {
                System.out.println("run " + run + ": due is " + want + ", digest " + model.digest() + " is "
                    + digest + " behind " + done);
                return false;
            }
        }
        return true;
    }

    private static void typeBoth(Counted x, Model model, String text, List<String> done) {
        x.clear();
        model.text.setLength(0);
        for (int i = 0; i < text.length(); i++) {
            x.type(text.charAt(i));
            model.call(4, new int[] {text.charAt(i), 0, 0, 0});
        }
        done.add("typed '" + text + "'");
    }

    private static int pick(Random dice) {
        int sum = Arrays.stream(OFTEN).sum();
        int at = dice.nextInt(sum);
        for (int i = 0; i < OFTEN.length; i++) {
            at -= OFTEN[i];
            if (at < 0) {
                return i;
            }
        }
        return 0;
    }

    private static int[] arguments(int which, Random dice, Model model, int wildness) {
        int n = Math.max(1, model.rope.size());
        int p = dice.nextInt(8);
        int c = dice.nextInt(n);
        int[] a = new int[4];
        switch (NAMES[which]) {
            case "pitch" -> a = new int[] {p, dice.nextInt(10), p + 1 + dice.nextInt(8 - p), p + 1 + dice.nextInt(8 - p)};
            case "ice" -> a = new int[] {p, dice.nextInt(3) == 0 ? 1 : 0, 0, 0};
            case "climber" -> a = new int[] {dice.nextInt(6), 1 + dice.nextInt(dice.nextBoolean() ? 12 : 30),
                dice.nextInt(10), dice.nextInt(256)};
            case "type" -> a[0] = dice.nextInt(128);
            case "sag", "rest" -> a = new int[] {c, dice.nextInt(2), 0, 0};
            case "of" -> a = new int[] {c, dice.nextInt(6), 0, 0};
            case "hangs" -> a = new int[] {c, p, 0, 0};
            case "says", "canSay" -> a[0] = p;
            case "path" -> a[0] = dice.nextInt(10) - 1;
            case "by" -> a = new int[] {dice.nextInt(9), dice.nextInt(2), 0, 0};
            case "mine", "stones", "is", "look" -> a[0] = c;
            case "tied" -> a = new int[] {c, dice.nextInt(7) - 1, 0, 0};
            case "cut" -> a = new int[] {dice.nextInt(n), dice.nextInt(2), 0, 0};
            case "rests" -> a = new int[] {c, dice.nextInt(n), 0, 0};
            case "note" -> a = new int[] {p, likelyNote(dice, model, p, n), 0, 0};
            case "slips" -> a = new int[] {c, dice.nextInt(11), 0, 0};
            case "walls" -> a = new int[] {dice.nextInt(1000000), dice.nextInt(61), dice.nextInt(9), 0};
            case "part", "image", "from" -> a[0] = dice.nextInt(2);
            case "status" -> a[0] = dice.nextInt(3);
            case "count" -> a[0] = dice.nextInt(7);
            default -> { }
        }
        if (dice.nextInt(wildness) == 0) {
            a[dice.nextInt(4)] = EDGES[dice.nextInt(EDGES.length)];
        }
        return a;
    }

    /** Mostly what is so, lest no stone ever fit. */
    private static int likelyNote(Random dice, Model model, int p, int n) {
        if (dice.nextInt(4) == 0) {
            return dice.nextInt(n + 1) - 1;
        }
        return model.sayer(model.sagging(0), p);
    }

    private static String someText(Random dice) {
        StringBuilder b = new StringBuilder("wall;");
        int items = dice.nextInt(9);
        for (int i = 0; i < items; i++) {
            int p = dice.nextInt(8);
            switch (dice.nextInt(4)) {
                case 0 -> b.append("pitch ").append(p).append(' ').append(dice.nextInt(10)).append(' ')
                    .append(p + 1 + dice.nextInt(8 - p)).append(' ').append(p + 1 + dice.nextInt(8 - p)).append(';');
                case 1 -> b.append("ice ").append(p).append(';');
                default -> {
                    b.append("climber ").append(dice.nextInt(6)).append(' ').append(1 + dice.nextInt(30)).append(' ')
                        .append(dice.nextInt(10));
                    for (int k = dice.nextInt(4); k > 0; k--) {
                        b.append(' ').append(dice.nextInt(8));
                    }
                    b.append(';');
                }
            }
        }
        int spoilt = dice.nextInt(3);
        for (int i = 0; i < spoilt && b.length() > 0; i++) {
            int at = dice.nextInt(b.length());
            String signs = " ;;019a-w 8";
            char sign = signs.charAt(dice.nextInt(signs.length()));
            switch (dice.nextInt(4)) {
                case 0 -> b.deleteCharAt(at);
                case 1 -> b.insert(at, sign);
                case 2 -> b.setCharAt(at, sign);
                default -> b.setLength(dice.nextInt(4) == 0 ? at : b.length());
            }
        }
        return b.length() > MOST_BYTES ? b.substring(0, MOST_BYTES) : b.toString();
    }

    private static long callReal(Counted x, int which, int[] a) {
        return switch (NAMES[which]) {
            case "wall" -> x.wall();
            case "pitch" -> x.pitch(a[0], a[1], a[2], a[3]);
            case "ice" -> x.ice(a[0], a[1]);
            case "climber" -> x.climber(a[0], a[1], a[2], a[3]);
            case "type" -> x.type(a[0]);
            case "clear" -> x.clear();
            case "read" -> x.read();
            case "sag" -> x.sag(a[0], a[1]);
            case "rest" -> x.rest(a[0], a[1]);
            case "go" -> x.go();
            case "undo" -> x.undo();
            case "of" -> x.of(a[0], a[1]);
            case "hangs" -> x.hangs(a[0], a[1]);
            case "says" -> x.says(a[0]);
            case "path" -> x.path(a[0]);
            case "by" -> x.by(a[0], a[1]);
            case "canSay" -> x.canSay(a[0]);
            case "mine" -> x.mine(a[0]);
            case "tied" -> x.tied(a[0], a[1]);
            case "cut" -> x.cut(a[0], a[1]);
            case "rests" -> x.rests(a[0], a[1]);
            case "note" -> x.note(a[0], a[1]);
            case "forget" -> x.forget();
            case "stones" -> x.stones(a[0]);
            case "is" -> x.is(a[0]);
            case "look" -> x.look(a[0]);
            case "slips" -> x.slips(a[0], a[1]);
            case "walls" -> x.walls(a[0], a[1], a[2]);
            case "part" -> x.part(a[0]);
            case "image" -> x.image(a[0]);
            case "from" -> x.from(a[0]);
            case "status" -> x.status(a[0]);
            case "count" -> x.count(a[0]);
            default -> x.digest();
        };
    }

    private record Man(int number, int kind, int weight, int stone, int wishes, boolean sags, boolean rests) {
        Man sagging(boolean is) {
            return new Man(number, kind, weight, stone, wishes, is, rests);
        }

        Man resting(boolean is) {
            return new Man(number, kind, weight, stone, wishes, sags, is);
        }

        Man withStone(int s) {
            return new Man(number, kind, weight, s, wishes, sags, rests);
        }

        Man withKind(int k) {
            return new Man(number, k, weight, stone, wishes, sags, rests);
        }

        int hang(int place, int hard) {
            return hangAs(kind, place, hard);
        }

        private int hangAs(int asKind, int place, int hard) {
            return switch (asKind) {
                case 0 -> rests ? 0 : weight + stone;
                case 1 -> hangAs(0, place, hard) / 2;
                case 2 -> hangAs(0, place, hard) + (sags ? 5 : 0);
                case 3 -> rests ? 0 : hangAs(0, place, hard) + hard;
                case 4 -> hangAs(1, place, hard) == 0 ? 0 : hangAs(1, place, hard) + place + place;
                default -> sags ? hangAs(2, place, hard) : 0;
            };
        }
    }

    private record Pitch(boolean ice, int hard, int left, int right) { }

    private record Kept(List<Pitch> pitches, List<Man> rope, int at, List<int[]> notes, List<Before> befores) { }

    private record Before(int at, List<Man> rope) { }

    private static final class Model {
        final StringBuilder text = new StringBuilder();
        List<Pitch> pitches = bare();
        List<Man> rope = new ArrayList<>();
        private int at = 0;
        private List<int[]> notes = new ArrayList<>();
        private Deque<Before> befores = new ArrayDeque<>();
        private final Kept[] images = new Kept[2];
        private BigInteger above = BigInteger.ZERO;
        private BigInteger below = BigInteger.ONE;
        private final int[] status = new int[3];

        private static List<Pitch> bare() {
            List<Pitch> all = new ArrayList<>();
            for (int p = 0; p < 8; p++) {
                all.add(new Pitch(false, 0, p + 1, p + 1));
            }
            return all;
        }

        private long refuse(int reason, long answer) {
            status[reason]++;
            return answer;
        }

        private boolean man(int c) {
            return c >= 0 && c < rope.size();
        }

        private static boolean in(int v, int low, int high) {
            return low <= v && v <= high;
        }

        long call(int which, int[] a) {
            if (!asTold(NAMES[which], a)) {
                return refuse(0, switch (NAMES[which]) {
                    case "says", "path", "tied", "cut" -> -10;
                    case "status" -> -1;
                    default -> -2;
                });
            }
            return told(NAMES[which], a);
        }

        private boolean asTold(String name, int[] a) {
            return switch (name) {
                case "pitch" -> in(a[0], 0, 7) && in(a[1], 0, 9) && in(a[2], a[0] + 1, 8) && in(a[3], a[0] + 1, 8);
                case "ice" -> in(a[0], 0, 7) && in(a[1], 0, 1);
                case "climber" -> in(a[0], 0, 5) && in(a[1], 1, 30) && in(a[2], 0, 9) && in(a[3], 0, 255);
                case "type" -> in(a[0], 0, 127);
                case "sag", "rest" -> man(a[0]) && in(a[1], 0, 1);
                case "of" -> man(a[0]) && in(a[1], 0, 5);
                case "hangs" -> man(a[0]) && in(a[1], 0, 7);
                case "says", "canSay" -> in(a[0], 0, 7);
                case "path" -> a[0] >= -1;
                case "by" -> in(a[0], 0, 8) && in(a[1], 0, 1);
                case "mine", "stones", "is", "look" -> man(a[0]);
                case "tied" -> man(a[0]) && a[1] >= -1;
                case "cut" -> man(a[0]) && a[0] != rope.size() - 1 && in(a[1], 0, 1);
                case "rests" -> man(a[0]) && man(a[1]) && a[0] != a[1];
                case "note" -> in(a[0], 0, 7) && (a[1] == -1 || man(a[1]));
                case "slips" -> man(a[0]) && in(a[1], 0, 10);
                case "walls" -> in(a[0], 0, 999999) && in(a[1], 0, 60) && in(a[2], 0, 8);
                case "part", "image", "from" -> in(a[0], 0, 1);
                case "status" -> in(a[0], 0, 2);
                case "count" -> in(a[0], 0, 6);
                default -> true;
            };
        }

        private long told(String name, int[] a) {
            boolean top = at == 8;
            return switch (name) {
                case "wall" -> restart();
                case "pitch" -> setPitch(a[0], new Pitch(pitches.get(a[0]).ice(), a[1], a[2], a[3])).hard();
                case "ice" -> setIce(a[0], a[1] == 1).ice() ? 1 : 0;
                case "climber" -> rope.size() == 5 ? refuse(2, -4) : join(a);
                case "type" -> text.length() == 150 ? refuse(2, -4) : text.append((char) a[0]).length();
                case "clear" -> emptyText();
                case "read" -> readText();
                case "sag" -> sag(a[0], a[1] == 1);
                case "rest" -> rest(a[0], a[1] == 1);
                case "go" -> top ? refuse(1, -3) : go();
                case "undo" -> befores.isEmpty() ? refuse(1, -3) : undo();
                case "of" -> of(rope.get(a[0]), a[1]);
                case "hangs" -> rope.get(a[0]).hang(a[0], pitches.get(a[1]).hard());
                case "says" -> sayer(rope, a[0]);
                case "path" -> path(a[0]);
                case "by" -> by(a[0], a[1]);
                case "canSay" -> canSay(a[0]);
                case "mine" -> mine(a[0]);
                case "tied" -> tied(a[0], a[1]);
                case "cut" -> top ? refuse(1, -3) : cut(a[0], a[1]);
                case "rests" -> top ? refuse(1, -3) : rests(a[0], a[1]);
                case "note" -> notes.size() == 6 ? refuse(2, -4) : note(a[0], a[1]);
                case "forget" -> forget();
                case "stones" -> stones(a[0]);
                case "is" -> kinds(a[0]);
                case "look" -> look(a[0]);
                case "slips" -> top ? refuse(1, -3) : slips(a[0], a[1]);
                case "walls" -> walls(a[0], a[1], a[2]);
                case "part" -> (a[0] == 0 ? above : below).longValueExact();
                case "image" -> keep(a[0]);
                case "from" -> images[a[0]] == null ? refuse(1, -3) : goOnFrom(images[a[0]]);
                case "status" -> status[a[0]];
                case "count" -> count(a[0]);
                default -> digest();
            };
        }

        private long restart() {
            int were = rope.size();
            pitches = bare();
            rope = new ArrayList<>();
            at = 0;
            notes = new ArrayList<>();
            befores = new ArrayDeque<>();
            return were;
        }

        private Pitch setPitch(int p, Pitch pitch) {
            return pitches.set(p, pitch);
        }

        private Pitch setIce(int p, boolean is) {
            Pitch was = pitches.get(p);
            return setPitch(p, new Pitch(is, was.hard(), was.left(), was.right()));
        }

        private long join(int[] a) {
            rope = new ArrayList<>(rope);
            rope.add(new Man(rope.size(), a[0], a[1], a[2], a[3], false, false));
            befores.clear();
            return rope.size() - 1;
        }

        private long emptyText() {
            int had = text.length();
            text.setLength(0);
            return had;
        }

        private void before() {
            befores.addLast(new Before(at, rope));
            if (befores.size() > 8) {
                befores.removeFirst();
            }
        }

        private void put(int c, Man man) {
            rope = new ArrayList<>(rope);
            rope.set(c, man);
        }

        private long sag(int c, boolean is) {
            before();
            boolean was = rope.get(c).sags();
            put(c, rope.get(c).sagging(is));
            return was ? 1 : 0;
        }

        private long rest(int c, boolean is) {
            before();
            boolean was = rope.get(c).rests();
            put(c, rope.get(c).resting(is));
            return was ? 1 : 0;
        }

        private long go() {
            before();
            at = next(rope, at);
            rope = sagging(0);
            return at;
        }

        private long undo() {
            Before last = befores.removeLast();
            at = last.at();
            rope = last.rope();
            return at;
        }

        private static long of(Man man, int what) {
            return new long[] {man.kind(), man.weight(), man.stone(), man.wishes(), man.sags() ? 1 : 0,
                man.rests() ? 1 : 0}[what];
        }

        List<Man> sagging(int bits) {
            List<Man> all = new ArrayList<>();
            for (Man man : rope) {
                all.add(man.sagging((bits & 1 << man.number()) != 0));
            }
            return all;
        }

        private int sagBits() {
            return rope.stream().filter(Man::sags).mapToInt(m -> 1 << m.number()).sum();
        }

        int sayer(List<Man> men, int p) {
            Pitch pitch = pitches.get(p);
            int most = 0;
            for (int i = 0; i < men.size(); i++) {
                most = Math.max(most, men.get(i).hang(i, pitch.hard()));
            }
            for (int i = 0; i < men.size() && most > 0; i++) {
                int hang = men.get(i).hang(i, pitch.hard());
                if (pitch.ice() ? hang > 0 : hang == most) {
                    return men.get(i).number();
                }
            }
            return -1;
        }

        private int next(List<Man> men, int p) {
            int c = sayer(men, p);
            boolean right = c >= 0 && (rope.get(c).wishes() & 1 << p) != 0;
            return right ? pitches.get(p).right() : pitches.get(p).left();
        }

        private long path(int i) {
            List<Integer> behind = new ArrayList<>();
            for (int p = at; p < 8; p = behind.get(behind.size() - 1)) {
                behind.add(next(p == at ? rope : sagging(0), p));
            }
            return i == -1 ? behind.size() : i < behind.size() ? behind.get(i) : -5;
        }

        /** The fewest from each pitch by going forward, for each set that sags here. */
        private long by(int told, int what) {
            if (told == at) {
                return 0;
            }
            int least = 99;
            int bits = -1;
            for (int extra = 0; extra < 1 << rope.size() && at < 8; extra++) {
                if ((extra & sagBits()) == 0) {
                    int[] cost = new int[9];
                    Arrays.fill(cost, 99);
                    cost[next(sagging(extra | sagBits()), at)] = Integer.bitCount(extra);
                    for (int p = at + 1; p < 8; p++) {
                        for (int set = 0; set < 1 << rope.size() && cost[p] < 99; set++) {
                            int to = next(sagging(set), p);
                            cost[to] = Math.min(cost[to], cost[p] + Integer.bitCount(set));
                        }
                    }
                    if (cost[told] < least) {
                        least = cost[told];
                        bits = extra;
                    }
                }
            }
            return bits < 0 ? -1 : what == 0 ? least : bits;
        }

        private long canSay(int p) {
            long bits = 0;
            for (Man man : rope) {
                boolean can = false;
                for (int set = 0; set < 32; set++) {
                    can |= sayer(sagging(set), p) == man.number();
                }
                bits += can ? 1 << man.number() : 0;
            }
            return bits;
        }

        private long mine(int c) {
            long bits = 0;
            for (int p = 0; p < 8; p++) {
                bits += (canSay(p) & 1 << c) == 0 ? 1 << p : 0;
            }
            return bits;
        }

        private long tied(int c, int i) {
            if (i >= rope.size()) {
                return -5;
            }
            List<List<Man>> orders = new ArrayList<>();
            addOrders(new ArrayList<>(), sagging(0), orders);
            int most = -1;
            List<Man> best = null;
            for (List<Man> order : orders) {
                int times = 0;
                for (int p = 0; p < 8; p++) {
                    times += sayer(order, p) == c ? 1 : 0;
                }
                if (times > most) {
                    most = times;
                    best = order;
                }
            }
            return i == -1 ? most : best.get(i).number();
        }

        private static void addOrders(List<Man> begun, List<Man> left, List<List<Man>> orders) {
            if (left.isEmpty()) {
                orders.add(new ArrayList<>(begun));
            }
            for (Man man : left) {
                List<Man> others = new ArrayList<>(left);
                others.remove(man);
                begun.add(man);
                addOrders(begun, others, orders);
                begun.remove(begun.size() - 1);
            }
        }

        private long cut(int i, int what) {
            return sayer(what == 0 ? rope.subList(0, i + 1) : rope.subList(i + 1, rope.size()), at);
        }

        private long rests(int a, int b) {
            int[][] who = new int[2][2];
            int others = sagBits() & ~(1 << a) & ~(1 << b);
            for (int i = 0; i < 2; i++) {
                for (int j = 0; j < 2; j++) {
                    who[i][j] = sayer(sagging(others | i << a | j << b), at);
                }
            }
            long bits = 0;
            for (int i = 0; i < 2; i++) {
                for (int j = 0; j < 2; j++) {
                    boolean aWould = who[i][j] != a && who[1 - i][j] == a;
                    boolean bWould = who[i][j] != b && who[i][1 - j] == b;
                    bits += aWould || bWould ? 0 : 1 << i + 2 * j;
                }
            }
            return bits;
        }

        private long note(int p, int c) {
            notes.add(new int[] {p, c});
            return notes.size();
        }

        private long forget() {
            int were = notes.size();
            notes.clear();
            return were;
        }

        private boolean so(List<Man> men) {
            return notes.stream().allMatch(n -> sayer(men, n[0]) == n[1]);
        }

        private List<Man> withStone(int c, int stone) {
            List<Man> men = sagging(0);
            men.set(c, men.get(c).withStone(stone));
            return men;
        }

        private long stones(int c) {
            long bits = 0;
            for (int s = 0; s < 10; s++) {
                bits += so(withStone(c, s)) ? 1 << s : 0;
            }
            return bits;
        }

        private long kinds(int c) {
            long bits = 0;
            for (int k = 0; k < 6; k++) {
                List<Man> men = sagging(0);
                men.set(c, men.get(c).withKind(k));
                bits += so(men) ? 1 << k : 0;
            }
            return bits;
        }

        private long look(int c) {
            long fit = stones(c);
            int best = -1;
            int least = 99;
            for (int p = 0; p < 8 && fit != 0; p++) {
                int[] parts = new int[2];
                for (int s = 0; s < 10; s++) {
                    if ((fit & 1 << s) != 0) {
                        parts[sayer(withStone(c, s), p) == c ? 1 : 0]++;
                    }
                }
                int greater = Math.max(parts[0], parts[1]);
                if (greater < least) {
                    least = greater;
                    best = p;
                }
            }
            return best;
        }

        private long slips(int c, int odds) {
            BigInteger up = chance(new ArrayList<>(), c, odds);
            BigInteger down = BigInteger.TEN.pow(rope.size());
            BigInteger common = up.gcd(down);
            above = up.divide(common);
            below = down.divide(common);
            return 1;
        }

        private BigInteger chance(List<Man> begun, int c, int odds) {
            if (begun.size() == rope.size()) {
                return sayer(begun, at) == c ? BigInteger.ONE : BigInteger.ZERO;
            }
            Man man = rope.get(begun.size());
            List<Man> slipped = new ArrayList<>(begun);
            slipped.add(man.resting(false));
            List<Man> held = new ArrayList<>(begun);
            held.add(man);
            return chance(slipped, c, odds).multiply(BigInteger.valueOf(odds))
                .add(chance(held, c, odds).multiply(BigInteger.valueOf(10 - odds)));
        }

        private long walls(int seed, int n, int told) {
            BigInteger x = BigInteger.valueOf(seed);
            int times = 0;
            for (int turn = 0; turn < n; turn++) {
                List<Integer> seen = new ArrayList<>(List.of(at));
                for (int p = at; p < 8; p = seen.get(seen.size() - 1)) {
                    x = x.multiply(BigInteger.valueOf(1103515245)).add(BigInteger.valueOf(12345))
                        .mod(BigInteger.valueOf(2147483648L));
                    int bits = x.divide(BigInteger.valueOf(65536)).mod(BigInteger.valueOf(32)).intValueExact();
                    seen.add(next(sagging(bits), p));
                }
                times += seen.contains(told) ? 1 : 0;
            }
            return times;
        }

        private long keep(int i) {
            images[i] = new Kept(new ArrayList<>(pitches), rope, at, new ArrayList<>(notes), new ArrayList<>(befores));
            return 1;
        }

        private long goOnFrom(Kept image) {
            pitches = new ArrayList<>(image.pitches());
            rope = image.rope();
            at = image.at();
            notes = new ArrayList<>(image.notes());
            befores = new ArrayDeque<>(image.befores());
            return 1;
        }

        private long count(int what) {
            return new long[] {rope.size(), at, rope.stream().filter(Man::sags).count(),
                rope.stream().filter(Man::rests).count(), notes.size(), befores.size(), text.length()}[what];
        }

        long digest() {
            List<Long> values = new ArrayList<>();
            for (int what = 0; what <= 6; what++) {
                values.add(count(what));
            }
            for (Pitch p : pitches) {
                values.addAll(List.of(p.ice() ? 1L : 0L, (long) p.hard(), (long) p.left(), (long) p.right()));
            }
            for (Man man : rope) {
                for (int what = 0; what < 6; what++) {
                    values.add(of(man, what));
                }
            }
            for (int[] n : notes) {
                values.addAll(List.of((long) n[0], (long) n[1]));
            }
            values.add(above.longValueExact());
            values.add(below.longValueExact());
            long h = 1153;
            for (long v : values) {
                h = 31 * h + v;
            }
            return h;
        }

        private record Token(String sign, int place) { }

        private long readText() {
            List<Token> tokens = new ArrayList<>();
            Matcher m = Pattern.compile("[a-z]+|[0-9]+|[^ ]", Pattern.DOTALL).matcher(text);
            while (m.find()) {
                tokens.add(new Token(m.group(), m.start()));
            }
            tokens.add(new Token("", text.length()));
            Model draft = new Model();
            int items = 0;
            int i = 0;
            while (items == 0 || i < tokens.size() - 1) {
                int passed = draft.item(tokens, i, items == 0);
                if (passed < 0) {
                    return -10 - tokens.get(-passed - 1).place();
                }
                i = passed;
                items++;
            }
            restart();
            pitches = draft.pitches;
            rope = draft.rope;
            return items;
        }

        /** The token behind the item, or -1 less the one at fault. */
        private int item(List<Token> tokens, int i, boolean first) {
            String word = tokens.get(i).sign();
            int[][] bounds = switch (word) {
                case "wall" -> first ? new int[0][] : null;
                case "pitch" -> first ? null : new int[][] {{0, 7}, {0, 9}, {1, 8}, {1, 8}};
                case "ice" -> first ? null : new int[][] {{0, 7}};
                case "climber" -> first || rope.size() == 5 ? null : new int[][] {{0, 5}, {1, 30}, {0, 9}};
                default -> null;
            };
            if (bounds == null) {
                return -1 - i;
            }
            List<Integer> numbers = new ArrayList<>();
            int k = i + 1;
            while (numbers.size() < bounds.length || word.equals("climber") && tokens.get(k).sign().matches("[0-9]+")) {
                int[] bound = numbers.size() < bounds.length ? bounds[numbers.size()] : new int[] {0, 7};
                int low = word.equals("pitch") && numbers.size() >= 2 ? numbers.get(0) + 1 : bound[0];
                String sign = tokens.get(k).sign();
                if (!sign.matches("[0-9]{1,2}") || !in(Integer.parseInt(sign), low, bound[1])) {
                    return -1 - k;
                }
                numbers.add(Integer.parseInt(sign));
                k++;
            }
            if (!tokens.get(k).sign().equals(";")) {
                return -1 - k;
            }
            take(word, numbers);
            return k + 1;
        }

        private void take(String word, List<Integer> numbers) {
            switch (word) {
                case "pitch" -> setPitch(numbers.get(0), new Pitch(pitches.get(numbers.get(0)).ice(), numbers.get(1),
                    numbers.get(2), numbers.get(3)));
                case "ice" -> setIce(numbers.get(0), true);
                case "climber" -> {
                    int wishes = 0;
                    for (int p : numbers.subList(3, numbers.size())) {
                        wishes |= 1 << p;
                    }
                    join(new int[] {numbers.get(0), numbers.get(1), numbers.get(2), wishes});
                }
                default -> { }
            }
        }
    }
}
