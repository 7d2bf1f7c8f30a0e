import java.util.function.LongSupplier;

/** Each promise of the document by itself: ordinary inputs, the edges that it names, wrong inputs. */
public final class PromisesTest {
    private static final int PLAIN = 0, LIGHT = 1, GUIDE = 2, FAT = 3, SHORT = 4, LEADER = 5;
    private static final int LOWEST = Integer.MIN_VALUE, GREATEST = Integer.MAX_VALUE;

    private static int wrong = 0;
    private static String promise = "";

    public static void main(String[] args) {
        newObject();
        wall();
        pitch();
        ice();
        climber();
        typeAndClear();
        read();
        readFaults();
        readBounds();
        sag();
        rest();
        go();
        undo();
        undoLastEight();
        of();
        hangs();
        says();
        path();
        by();
        canSay();
        mine();
        tied();
        cut();
        rests();
        noteAndForget();
        stones();
        is();
        look();
        slips();
        walls();
        part();
        images();
        status();
        count();
        digest();
        System.out.println(wrong == 0 ? "all promises hold" : wrong + " answers are not as due");
        if (wrong != 0) {
            System.exit(1);
        }
    }

    // ---- what the tests use

    private static void due(String what, long got, long want) {
        if (got != want) {
            wrong++;
            System.out.println("promise " + promise + ": " + what + " answered " + got + ", due is " + want);
        }
    }

    /** A refused call changes nothing but its own reason's number. */
    private static void refused(Counted x, int reason, String what, LongSupplier call, long want) {
        long digest = x.digest();
        int[] status = {x.status(0), x.status(1), x.status(2)};
        due(what, call.getAsLong(), want);
        status[reason]++;
        for (int i = 0; i < 3; i++) {
            due(what + ", then status(" + i + ")", x.status(i), status[i]);
        }
        due(what + ", then digest()", x.digest(), digest);
    }

    private static void bad(Counted x, String what, LongSupplier call) {
        refused(x, 0, what, call, RopeLaw.BAD);
    }

    private static void otherBad(Counted x, String what, LongSupplier call) {
        refused(x, 0, what, call, -10);
    }

    private static void no(Counted x, String what, LongSupplier call) {
        refused(x, 1, what, call, RopeLaw.NO);
    }

    private static void full(Counted x, String what, LongSupplier call) {
        refused(x, 2, what, call, RopeLaw.FULL);
    }

    /** A call that is answered with less than there might be, but is not refused. */
    private static void notRefused(Counted x, String what, LongSupplier call, long want) {
        long digest = x.digest();
        int all = x.status(0) + x.status(1) + x.status(2);
        due(what, call.getAsLong(), want);
        due(what + ", then status", x.status(0) + x.status(1) + x.status(2), all);
        due(what + ", then digest()", x.digest(), digest);
    }

    private static void type(Counted x, String text) {
        x.clear();
        for (int i = 0; i < text.length(); i++) {
            x.type(text.charAt(i));
        }
    }

    private static void goToTop(Counted x) {
        for (int i = 0; i < 8 && x.count(1) < 8; i++) {
            x.go();
        }
    }

    private static void goTo(Counted x, int p) {
        for (int i = 0; i < 8 && x.count(1) < p; i++) {
            x.go();
        }
        due("they are at", x.count(1), p);
    }

    private static Counted withClimbers(int[]... climbers) {
        Counted x = new Counted();
        for (int[] c : climbers) {
            x.climber(c[0], c[1], c[2], c[3]);
        }
        return x;
    }

    private static int[] one(int kind, int weight, int stone, int wishes) {
        return new int[] {kind, weight, stone, wishes};
    }

    // ---- the promises

    private static void newObject() {
        promise = "1";
        Counted x = new Counted();
        for (int what = 0; what <= 6; what++) {
            due("count(" + what + ")", x.count(what), 0);
        }
        for (int what = 0; what <= 2; what++) {
            due("status(" + what + ")", x.status(what), 0);
        }
        due("part(0)", x.part(0), 0);
        due("part(1)", x.part(1), 1);
        for (int p = 0; p < 8; p++) {
            due("says(" + p + ")", x.says(p), RopeLaw.NONE);
            due("ice(" + p + ", 0)", x.ice(p, 0), 0);
            due("path(" + p + ")", x.path(p), p + 1);
            due("pitch's HARD", x.pitch(p, 0, p + 1, p + 1), 0);
        }
        no(x, "from(0)", () -> x.from(0));
        no(x, "from(1)", () -> x.from(1));
        no(x, "undo()", x::undo);
        due("read()", x.read(), -10);
        Counted y = withClimbers(one(PLAIN, 1, 0, 255));
        for (int p = 0; p < 8; p++) {
            due("to the RIGHT at first", y.go(), p + 1);
        }
    }

    private static void wall() {
        promise = "2";
        Counted x = withClimbers(one(PLAIN, 9, 1, 0), one(GUIDE, 6, 2, 3));
        x.pitch(3, 4, 5, 6);
        x.ice(2, 1);
        x.rest(0, 1);
        x.slips(0, 5);
        x.image(1);
        x.go();
        x.sag(1, 1);
        x.note(0, 1);
        type(x, "wall;");
        x.pitch(9, 9, 9, 9);
        due("wall()", x.wall(), 2);
        for (int what = 0; what <= 5; what++) {
            due("count(" + what + ")", x.count(what), 0);
        }
        due("THE TEXT stays", x.count(6), 5);
        due("STATUS stays", x.status(0), 1);
        due("THE FRACTION stays", x.part(0) * 10 + x.part(1), 12);
        due("HARD as at first", x.pitch(3, 0, 4, 4), 0);
        due("ICE as at first", x.ice(2, 0), 0);
        x.wall();
        due("path(3)", x.path(3), 4);
        due("path(-1)", x.path(-1), 8);
        due("wall() again", x.wall(), 0);
        due("IMAGES stay", x.from(1), 1);
        due("count(0)", x.count(0), 2);
        due("HARD from the IMAGE", x.pitch(3, 4, 5, 6), 4);
    }

    private static void pitch() {
        promise = "3";
        Counted x = withClimbers(one(FAT, 1, 0, 1));
        due("pitch(0, 9, 1, 8)", x.pitch(0, 9, 1, 8), 0);
        due("pitch(0, 3, 2, 5)", x.pitch(0, 3, 2, 5), 9);
        due("hangs(0, 0)", x.hangs(0, 0), 4);
        due("RIGHT", x.path(0), 5);
        x.rest(0, 1);
        due("LEFT", x.path(0), 2);
        due("pitch(7, 0, 8, 8)", x.pitch(7, 0, 8, 8), 0);
        x.ice(4, 1);
        due("pitch(4, 1, 5, 6)", x.pitch(4, 1, 5, 6), 0);
        due("ICE stays", x.ice(4, 1), 1);
        int[][] wrongs = {{-1, 0, 1, 1}, {8, 0, 8, 8}, {8, 0, 9, 9}, {0, -1, 1, 1}, {0, 10, 1, 1}, {0, 0, 0, 1},
            {0, 0, 9, 1}, {0, 0, 1, 0}, {0, 0, 1, 9}, {5, 0, 5, 6}, {5, 0, 6, 5}, {5, 0, 6, 2}, {7, 0, 7, 8},
            {LOWEST, 0, 1, 1}, {GREATEST, 0, LOWEST, LOWEST}, {0, GREATEST, 1, 1}, {0, 0, GREATEST, 1},
            {0, 0, 1, LOWEST}};
        for (int[] w : wrongs) {
            bad(x, "pitch(" + w[0] + ", " + w[1] + ", " + w[2] + ", " + w[3] + ")",
                () -> x.pitch(w[0], w[1], w[2], w[3]));
        }
    }

    private static void ice() {
        promise = "4";
        Counted x = withClimbers(one(PLAIN, 1, 0, 0), one(PLAIN, 30, 0, 0));
        due("says(7)", x.says(7), 1);
        due("ice(7, 1)", x.ice(7, 1), 0);
        due("says(7) on ICE", x.says(7), 0);
        due("says(6)", x.says(6), 1);
        due("ice(7, 1)", x.ice(7, 1), 1);
        due("ice(7, 0)", x.ice(7, 0), 1);
        due("ice(7, 0)", x.ice(7, 0), 0);
        due("ice(0, 1)", x.ice(0, 1), 0);
        for (int w : new int[] {-1, 8, LOWEST, GREATEST}) {
            bad(x, "ice(" + w + ", 0)", () -> x.ice(w, 0));
        }
        for (int w : new int[] {-1, 2, LOWEST, GREATEST}) {
            bad(x, "ice(0, " + w + ")", () -> x.ice(0, w));
        }
    }

    private static void climber() {
        promise = "5";
        Counted x = new Counted();
        due("climber(0, 1, 0, 0)", x.climber(0, 1, 0, 0), 0);
        due("climber(5, 30, 9, 255)", x.climber(5, 30, 9, 255), 1);
        int[][] wrongs = {{-1, 1, 0, 0}, {6, 1, 0, 0}, {0, 0, 0, 0}, {0, 31, 0, 0}, {0, 1, -1, 0}, {0, 1, 10, 0},
            {0, 1, 0, -1}, {0, 1, 0, 256}, {LOWEST, 1, 0, 0}, {0, GREATEST, 0, 0}, {0, 1, LOWEST, 0},
            {0, 1, 0, GREATEST}};
        for (int[] w : wrongs) {
            bad(x, "climber(" + w[0] + ", " + w[1] + ", " + w[2] + ", " + w[3] + ")",
                () -> x.climber(w[0], w[1], w[2], w[3]));
        }
        x.sag(0, 1);
        x.rest(1, 1);
        due("climber(3, 4, 5, 6)", x.climber(3, 4, 5, 6), 2);
        due("SAGS at first", x.of(2, 4), 0);
        due("RESTS at first", x.of(2, 5), 0);
        due("SAGS of another stays", x.of(0, 4), 1);
        due("RESTS of another stays", x.of(1, 5), 1);
        due("none may be undone", x.count(5), 0);
        due("climber(1, 1, 1, 1)", x.climber(1, 1, 1, 1), 3);
        due("climber(2, 2, 2, 2)", x.climber(2, 2, 2, 2), 4);
        x.sag(0, 0);
        full(x, "a 6th climber", () -> x.climber(0, 1, 0, 0));
        due("a refused one leaves what may be undone", x.count(5), 1);
        bad(x, "BAD ahead of FULL", () -> x.climber(6, 1, 0, 0));
        x.wall();
        x.climber(0, 1, 0, 0);
        x.sag(0, 1);
        x.rest(0, 1);
        x.wall();
        x.climber(0, 1, 0, 0);
        due("one that comes behind wall() does not SAG", x.of(0, 4), 0);
        due("one that comes behind wall() does not REST", x.of(0, 5), 0);
    }

    private static void typeAndClear() {
        promise = "6";
        Counted x = new Counted();
        for (int w : new int[] {-1, 128, LOWEST, GREATEST}) {
            bad(x, "type(" + w + ")", () -> x.type(w));
        }
        due("type(0)", x.type(0), 1);
        due("type(127)", x.type(127), 2);
        for (int i = 3; i <= 150; i++) {
            due("type(32)", x.type(32), i);
        }
        full(x, "type(32) behind 150", () -> x.type(32));
        bad(x, "BAD ahead of FULL", () -> x.type(128));
        promise = "7";
        due("clear()", x.clear(), 150);
        due("count(6)", x.count(6), 0);
        due("clear()", x.clear(), 0);
        due("type(59)", x.type(59), 1);
        due("clear()", x.clear(), 1);
        due("none refused", x.status(1), 0);
    }

    private static void read() {
        promise = "8";
        Counted x = withClimbers(one(PLAIN, 9, 1, 0), one(GUIDE, 6, 2, 3));
        x.pitch(3, 4, 5, 6);
        x.ice(2, 1);
        x.rest(0, 1);
        x.slips(0, 5);
        x.image(0);
        x.go();
        x.sag(1, 1);
        x.note(0, 1);
        x.pitch(9, 9, 9, 9);
        type(x, "wall;");
        due("read() of wall alone", x.read(), 1);
        for (int what = 0; what <= 5; what++) {
            due("count(" + what + ")", x.count(what), 0);
        }
        due("THE TEXT stays", x.count(6), 5);
        due("THE FRACTION stays", x.part(0) * 10 + x.part(1), 12);
        due("STATUS stays", x.status(0), 1);
        due("HARD as at first", x.pitch(3, 0, 4, 4), 0);
        due("ICE as at first", x.ice(2, 0), 0);
        due("IMAGES stay", x.from(0), 1);
        due("count(0)", x.count(0), 2);
        type(x, "  wall ; pitch7 09 8 08;pitch 0 3 2 5;ice 3;ice 7;ice6 ;climber 5 30 9;"
            + "climber 0 01 00 7 0 7 3;pitch 0 4 1 6 ;  ");
        due("read()", x.read(), 9);
        due("count(0)", x.count(0), 2);
        long[][] of = {{5, 30, 9, 0, 0, 0}, {0, 1, 0, 137, 0, 0}};
        for (int c = 0; c < 2; c++) {
            for (int what = 0; what < 6; what++) {
                due("of(" + c + ", " + what + ")", x.of(c, what), of[c][what]);
            }
        }
        due("RIGHT of pitch 0, told twice", x.path(0), 6);
        x.rest(1, 1);
        due("LEFT of pitch 0, told twice, where nobody says", x.path(0), 1);
        due("HARD of 0", x.pitch(0, 0, 1, 1), 4);
        due("HARD of 7", x.pitch(7, 0, 8, 8), 9);
        for (int p = 0; p < 8; p++) {
            due("ICE of " + p, x.ice(p, 0), p == 3 || p == 6 || p == 7 ? 1 : 0);
        }
        due("none was refused", x.status(0) + x.status(1) + x.status(2), 1);
        x.rest(0, 1);
        x.note(1, 0);
        x.wall();
        due("read() again", x.read(), 9);
        due("NOTES none", x.count(4), 0);
        type(x, "wall;climber 0 1 0;climber 1 1 0;climber 2 1 0;climber 3 1 0;climber 4 1 0;");
        due("five climbers", x.read(), 6);
        due("count(0)", x.count(0), 5);
    }

    private static void fault(String text, int place) {
        Counted x = withClimbers(one(PLAIN, 5, 1, 0), one(GUIDE, 6, 2, 3));
        x.pitch(2, 7, 4, 6);
        x.note(3, -1);
        x.sag(1, 1);
        type(x, text);
        notRefused(x, "read() of '" + text + "'", x::read, -10 - place);
    }

    private static void readFaults() {
        promise = "8";
        fault("", 0);
        fault("   ", 3);
        fault("wall", 4);
        fault("wall  ", 6);
        fault("wal;", 0);
        fault("walls;", 0);
        fault(" Wall;", 1);
        fault("waLl;", 0);
        fault("tall;", 0);
        fault("wallz;", 0);
        fault(";", 0);
        fault(" 1;", 1);
        fault("-", 0);
        fault("ice 0;wall;", 0);
        fault("climber 0 1 0;", 0);
        fault("wall;wall;", 5);
        fault("wall;ice 0;wall;", 11);
        fault("wall wall;", 5);
        fault("wall 1;", 5);
        fault("wall;;", 5);
        fault("wall; 3;", 6);
        fault("wall;rope;", 5);
        fault("wall;pit", 5);
        fault("wall;icy 0;", 5);
        fault("wall;\nice 0;", 5);
        fault("wall;ice", 8);
        fault("wall;ice 0", 10);
        fault("wall;ice 0 ", 11);
        fault("wall;ice;", 8);
        fault("wall;ice 8;", 9);
        fault("wall;ice 007;", 9);
        fault("wall;ice 0071", 9);
        fault("wall;ice 0 7;", 11);
        fault("wall;ice 0wall;", 10);
        fault("wall;ice 0{", 10);
        fault("wall;ice /", 9);
        fault("wall;ice :", 9);
        fault("wall;ice `", 9);
        fault("wall;ice -1;", 9);
        fault("wall;ice x;", 9);
        fault("wall;ice 000000000000000000000000000000;", 9);
        fault("wall;climber 0 1 0;climber 0 1 0;climber 0 1 0;climber 0 1 0;climber 0 1 0;climber 9 x", 75);
        fault("wall;climber 0 1 0;climber 0 1 0;climber 0 1 0;climber 0 1 0;climber 0 1 0;climber", 75);
    }

    private static void readBounds() {
        promise = "8";
        fault("wall;pitch 8 0 8 8;", 11);
        fault("wall;pitch 0 10 1 1;", 13);
        fault("wall;pitch 0 0 0 1;", 15);
        fault("wall;pitch 0 0 9 1;", 15);
        fault("wall;pitch 0 0 1 0;", 17);
        fault("wall;pitch 0 0 1 9;", 17);
        fault("wall;pitch 5 0 5 6;", 15);
        fault("wall;pitch 5 0 6 5;", 17);
        fault("wall;pitch 0 0 1;", 16);
        fault("wall;pitch 0 0 1 1 1;", 19);
        fault("wall;pitch 0 0 1 1", 18);
        fault("wall;climber 6 1 0;", 13);
        fault("wall;climber 0 0 0;", 15);
        fault("wall;climber 0 31 0;", 15);
        fault("wall;climber 0 30 10;", 18);
        fault("wall;climber 0 30;", 17);
        fault("wall;climber 0 30 9 8;", 20);
        fault("wall;climber 0 30 9 7 007;", 22);
        fault("wall;climber 0 30 9 7 ice;", 22);
        fault("wall;climber 0 30 9 7", 21);
    }

    private static void sag() {
        promise = "9";
        Counted x = withClimbers(one(GUIDE, 1, 0, 0), one(GUIDE, 1, 0, 0));
        due("sag(1, 1)", x.sag(1, 1), 0);
        due("says(0)", x.says(0), 1);
        due("of(0, 4)", x.of(0, 4), 0);
        due("of(1, 4)", x.of(1, 4), 1);
        due("sag(1, 1)", x.sag(1, 1), 1);
        due("sag(1, 0)", x.sag(1, 0), 1);
        due("sag(1, 0)", x.sag(1, 0), 0);
        due("each may be undone", x.count(5), 4);
        goToTop(x);
        due("at THE TOP", x.sag(0, 1), 0);
        due("count(2)", x.count(2), 1);
        for (int w : new int[] {-1, 2, LOWEST, GREATEST}) {
            bad(x, "sag(" + w + ", 0)", () -> x.sag(w, 0));
            bad(x, "sag(0, " + w + ")", () -> x.sag(0, w));
        }
    }

    private static void rest() {
        promise = "10";
        Counted x = withClimbers(one(PLAIN, 2, 0, 0), one(PLAIN, 1, 0, 0));
        due("rest(0, 1)", x.rest(0, 1), 0);
        due("says(0)", x.says(0), 1);
        due("of(0, 5)", x.of(0, 5), 1);
        due("of(1, 5)", x.of(1, 5), 0);
        due("rest(0, 1)", x.rest(0, 1), 1);
        x.go();
        due("one RESTS behind GOING, too", x.of(0, 5), 1);
        due("rest(0, 0)", x.rest(0, 0), 1);
        due("rest(0, 0)", x.rest(0, 0), 0);
        due("each may be undone", x.count(5), 5);
        for (int w : new int[] {-1, 2, LOWEST, GREATEST}) {
            bad(x, "rest(" + w + ", 0)", () -> x.rest(w, 0));
            bad(x, "rest(0, " + w + ")", () -> x.rest(0, w));
        }
    }

    private static void go() {
        promise = "11";
        Counted x = withClimbers(one(GUIDE, 10, 0, 1 | 4), one(GUIDE, 9, 0, 2));
        for (int p = 0; p < 7; p++) {
            x.pitch(p, 0, p + 1, Math.min(p + 2, 8));
        }
        due("RIGHT, as 0 WISHES", x.go(), 2);
        x.sag(1, 1);
        due("LEFT, as 1 WISHES", x.go(), 3);
        due("nobody SAGS behind it", x.count(2), 0);
        x.rest(0, 1);
        x.rest(1, 1);
        due("nobody says: LEFT", x.go(), 4);
        due("they REST behind it", x.count(3), 2);
        x.pitch(4, 0, 5, 8);
        x.wall();
        x.climber(PLAIN, 1, 0, 128);
        x.pitch(0, 0, 7, 8);
        due("go()", x.go(), 7);
        due("THE TOP", x.go(), 8);
        no(x, "go() at THE TOP", x::go);
    }

    private static void undo() {
        promise = "12";
        Counted x = withClimbers(one(GUIDE, 10, 0, 1), one(GUIDE, 9, 0, 0));
        x.pitch(0, 0, 1, 5);
        x.rest(1, 1);
        x.sag(0, 1);
        x.go();
        due("count(5)", x.count(5), 3);
        x.pitch(5, 3, 6, 7);
        due("undo() of go()", x.undo(), 0);
        due("SAGS as ahead of it", x.of(0, 4), 1);
        due("RESTS as ahead of it", x.of(1, 5), 1);
        due("a PITCH stays", x.pitch(5, 3, 6, 7), 3);
        due("undo() of sag()", x.undo(), 0);
        due("SAGS as ahead of it", x.of(0, 4), 0);
        due("undo() of rest()", x.undo(), 0);
        due("RESTS as ahead of it", x.of(1, 5), 0);
        no(x, "undo()", x::undo);
        goToTop(x);
        int steps = x.count(5);
        due("they came by 5", steps, 4);
        x.sag(0, 1);
        x.sag(1, 1);
        x.rest(0, 1);
        x.rest(1, 1);
        due("count(5)", x.count(5), 8);
        x.sag(0, 0);
        due("8 at most", x.count(5), 8);
        for (int i = 0; i < 5; i++) {
            due("undo() at THE TOP", x.undo(), 8);
        }
        due("undo() of the last GOING", x.undo(), 7);
        due("undo()", x.undo(), 6);
        due("undo()", x.undo(), 5);
        no(x, "the ninth", x::undo);
        due("they are at", x.count(1), 5);
        x.sag(0, 1);
        x.climber(PLAIN, 1, 0, 0);
        no(x, "undo() behind a CLIMBER that came", x::undo);
        due("SAGS stays", x.of(0, 4), 1);
    }

    /** Each of the last eight goes back to what stood ahead of it, though older ones have dropped out. */
    private static void undoLastEight() {
        Counted x = withClimbers(one(GUIDE, 10, 0, 0), one(GUIDE, 9, 0, 0));
        long[] digests = new long[12];
        for (int i = 0; i < 12; i++) {
            digests[i] = fold(x.of(0, 4), x.of(1, 4), x.of(0, 5), x.of(1, 5));
            int c = i % 3 == 0 ? 1 : 0;
            if (i % 2 == 0) {
                x.sag(c, 1 - x.of(c, 4));
            } else {
                x.rest(c, 1 - x.of(c, 5));
            }
        }
        for (int i = 11; i >= 4; i--) {
            due("undo()", x.undo(), 0);
            due("who SAGS, RESTS as ahead of call " + i, fold(x.of(0, 4), x.of(1, 4), x.of(0, 5), x.of(1, 5)), digests[i]);
        }
        no(x, "undo()", x::undo);
    }

    private static void of() {
        promise = "13";
        Counted x = withClimbers(one(PLAIN, 1, 9, 255), one(SHORT, 30, 3, 77));
        x.sag(0, 1);
        x.rest(1, 1);
        int[][] want = {{0, 1, 9, 255, 1, 0}, {4, 30, 3, 77, 0, 1}};
        for (int c = 0; c < 2; c++) {
            for (int what = 0; what < 6; what++) {
                due("of(" + c + ", " + what + ")", x.of(c, what), want[c][what]);
            }
        }
        for (int w : new int[] {-1, 2, LOWEST, GREATEST}) {
            bad(x, "of(" + w + ", 0)", () -> x.of(w, 0));
        }
        for (int w : new int[] {-1, 6, LOWEST, GREATEST}) {
            bad(x, "of(0, " + w + ")", () -> x.of(0, w));
        }
    }

    private static void hangs() {
        promise = "14";
        // Each kind, of WEIGHT 6 and STONE 3 at place 2, HARD 4: neither, SAGS, RESTS, both.
        int[][] want = {{9, 9, 0, 0}, {4, 4, 0, 0}, {9, 14, 0, 5}, {13, 13, 0, 0}, {8, 8, 0, 0}, {0, 14, 0, 5}};
        for (int kind = PLAIN; kind <= LEADER; kind++) {
            Counted x = withClimbers(one(PLAIN, 1, 0, 0), one(PLAIN, 1, 0, 0), one(kind, 6, 3, 0));
            x.pitch(5, 4, 6, 7);
            for (int how = 0; how < 4; how++) {
                x.sag(2, how & 1);
                x.rest(2, how >> 1);
                due("KIND " + kind + ", " + how, x.hangs(2, 5), want[kind][how]);
            }
        }
        Counted x = withClimbers(one(LIGHT, 1, 0, 0), one(SHORT, 1, 0, 0), one(SHORT, 2, 0, 0), one(FAT, 1, 0, 0),
            one(SHORT, 30, 9, 0));
        x.pitch(0, 9, 1, 1);
        due("half of 1", x.hangs(0, 0), 0);
        due("SHORT, where LIGHT is 0", x.hangs(1, 0), 0);
        due("SHORT at place 2", x.hangs(2, 0), 5);
        due("FAT at HARD 9", x.hangs(3, 0), 10);
        due("FAT at HARD 0", x.hangs(3, 7), 1);
        due("SHORT at place 4", x.hangs(4, 7), 27);
        for (int w : new int[] {-1, 5, LOWEST, GREATEST}) {
            bad(x, "hangs(" + w + ", 0)", () -> x.hangs(w, 0));
        }
        for (int w : new int[] {-1, 8, LOWEST, GREATEST}) {
            bad(x, "hangs(0, " + w + ")", () -> x.hangs(0, w));
        }
    }

    private static void says() {
        promise = "15";
        Counted x = withClimbers(one(LIGHT, 1, 0, 0), one(FAT, 8, 0, 0), one(PLAIN, 9, 0, 0), one(GUIDE, 5, 4, 0));
        x.pitch(1, 1, 2, 2);
        x.pitch(2, 2, 3, 3);
        x.ice(3, 1);
        due("of like ones the first", x.says(0), 2);
        due("of like ones the first, by HARD", x.says(1), 1);
        due("HARD", x.says(2), 1);
        due("on ICE the first of whom anything HANGS", x.says(3), 1);
        x.sag(3, 1);
        due("SAGS as now", x.says(7), 3);
        due("on ICE", x.says(3), 1);
        for (int c = 0; c < 4; c++) {
            x.rest(c, 1);
        }
        due("one who SAGS and RESTS", x.says(0), 3);
        due("on ICE", x.says(3), 3);
        x.sag(3, 0);
        notRefused(x, "nobody", () -> x.says(0), -1);
        notRefused(x, "nobody on ICE", () -> x.says(3), -1);
        for (int w : new int[] {-1, 8, LOWEST, GREATEST}) {
            otherBad(x, "says(" + w + ")", () -> x.says(w));
        }
    }

    private static void path() {
        promise = "16";
        Counted x = withClimbers(one(PLAIN, 10, 0, 0), one(GUIDE, 8, 0, 255));
        for (int p = 0; p < 8; p++) {
            x.pitch(p, 0, p + 1, Math.min(p + 3, 8));
        }
        x.sag(1, 1);
        due("how many", x.path(-1), 6);
        int[] want = {3, 4, 5, 6, 7, 8};
        for (int i = 0; i < 6; i++) {
            due("path(" + i + "), SAGS for this PITCH alone", x.path(i), want[i]);
        }
        notRefused(x, "path(6)", () -> x.path(6), -5);
        notRefused(x, "path of the greatest", () -> x.path(GREATEST), -5);
        due("SAGS stays", x.of(1, 4), 1);
        x.go();
        due("from the PITCH as it is", x.path(0), 4);
        due("how many", x.path(-1), 5);
        goToTop(x);
        Counted y = withClimbers(one(GUIDE, 8, 0, 255), one(PLAIN, 10, 0, 0));
        y.pitch(0, 0, 1, 2);
        y.pitch(1, 0, 2, 3);
        due("nobody SAGS later on", y.path(1), 2);
        notRefused(x, "at THE TOP", () -> x.path(-1), 0);
        notRefused(x, "path(0) at THE TOP", () -> x.path(0), -5);
        for (int w : new int[] {-2, -10, LOWEST}) {
            otherBad(x, "path(" + w + ")", () -> x.path(w));
        }
    }

    private static void by() {
        promise = "17";
        Counted x = withClimbers(one(PLAIN, 10, 0, 0), one(GUIDE, 8, 0, 3), one(LEADER, 6, 0, 7), one(LEADER, 6, 0, 9));
        for (int p = 0; p < 8; p++) {
            x.pitch(p, 0, Math.min(p + 2, 8), p + 1);
        }
        due("where they are", x.by(0, 0), 0);
        due("nobody", x.by(0, 1), 0);
        due("by(2, 0)", x.by(2, 0), 0);
        due("by(1, 0)", x.by(1, 0), 1);
        due("of like ones the least bits", x.by(1, 1), 2);
        due("3 by 2, where one SAGS", x.by(3, 0), 1);
        due("nobody here, then one at 2", x.by(3, 1), 0);
        due("4 by 2", x.by(4, 0), 0);
        due("by(7, 0)", x.by(7, 0), 1);
        due("by(7, 1)", x.by(7, 1), 0);
        due("by(8, 0)", x.by(8, 0), 0);
        x.sag(3, 1);
        due("those who SAG now are not counted", x.by(1, 0), 0);
        due("nobody besides", x.by(1, 1), 0);
        due("as 3 says and WISHES RIGHT, 2 comes by 1 alone: another SAGS there", x.by(2, 0), 1);
        x.sag(3, 0);
        x.wall();
        x.climber(PLAIN, 10, 0, 1);
        x.climber(GUIDE, 8, 0, 0);
        x.climber(GUIDE, 8, 0, 0);
        x.pitch(0, 0, 5, 1);
        x.sag(2, 1);
        notRefused(x, "none: one SAGS now and says LEFT", () -> x.by(1, 0), -1);
        notRefused(x, "none", () -> x.by(1, 1), -1);
        due("by(5, 0)", x.by(5, 0), 0);
        x.go();
        due("at 5", x.by(5, 0), 0);
        notRefused(x, "behind them", () -> x.by(4, 0), -1);
        notRefused(x, "behind them", () -> x.by(0, 1), -1);
        goToTop(x);
        due("THE TOP", x.by(8, 0), 0);
        due("THE TOP", x.by(8, 1), 0);
        notRefused(x, "from THE TOP", () -> x.by(7, 0), -1);
        byLeaders();
        byWays();
        for (int w : new int[] {-1, 9, LOWEST, GREATEST}) {
            bad(x, "by(" + w + ", 0)", () -> x.by(w, 0));
        }
        for (int w : new int[] {-1, 2, LOWEST, GREATEST}) {
            bad(x, "by(8, " + w + ")", () -> x.by(8, w));
        }
    }

    private static void byLeaders() {
        Counted x = withClimbers(one(LEADER, 6, 0, 2), one(GUIDE, 5, 0, 0), one(LEADER, 3, 0, 1));
        x.pitch(0, 0, 1, 2);
        x.pitch(1, 0, 2, 3);
        x.pitch(2, 0, 4, 4);
        due("by(3, 0): 1 as it comes, then 0 SAGS there", x.by(3, 0), 1);
        due("by(3, 1)", x.by(3, 1), 0);
        due("by(2, 0)", x.by(2, 0), 0);
        x.pitch(1, 0, 3, 4);
        due("2 by 2's wish here alone", x.by(2, 0), 1);
        due("2 SAGS: bits", x.by(2, 1), 4);
        x.sag(1, 1);
        notRefused(x, "1 SAGS and is heavier", () -> x.by(2, 0), -1);
    }

    /** Two ways of like numbers of sags: the least bits here, though the sag might come later. */
    private static void byWays() {
        Counted x = withClimbers(one(PLAIN, 10, 0, 0), one(LEADER, 20, 0, 255));
        x.pitch(0, 0, 1, 2);
        x.pitch(1, 0, 3, 4);
        x.pitch(2, 0, 4, 5);
        x.pitch(3, 0, 6, 6);
        x.pitch(4, 0, 6, 6);
        due("by(4, 0): RIGHT here or at 1", x.by(4, 0), 1);
        due("by(4, 1): later", x.by(4, 1), 0);
        due("by(5, 0): RIGHT here and at 2", x.by(5, 0), 2);
        due("by(5, 1)", x.by(5, 1), 2);
        x.sag(1, 1);
        due("by(5, 0), where one SAGS now", x.by(5, 0), 1);
        due("by(5, 1), where one SAGS now", x.by(5, 1), 0);
    }

    private static void canSay() {
        promise = "18";
        Counted x = withClimbers(one(PLAIN, 10, 0, 0), one(GUIDE, 6, 0, 0), one(LEADER, 20, 0, 0), one(LEADER, 1, 0, 0));
        due("canSay(0)", x.canSay(0), 1 | 2 | 4);
        x.ice(1, 1);
        due("on ICE", x.canSay(1), 1);
        x.sag(2, 1);
        due("whoever SAGS now", x.canSay(0), 1 | 2 | 4);
        x.rest(0, 1);
        due("RESTS as now", x.canSay(0), 2 | 4);
        due("on ICE", x.canSay(1), 2);
        x.rest(1, 1);
        x.rest(2, 1);
        due("those who SAG and REST", x.canSay(0), 2 | 4 | 8);
        due("of them on ICE", x.canSay(1), 2 | 4 | 8);
        due("SAGS stays", x.of(2, 4), 1);
        due("no CLIMBERS", new Counted().canSay(7), 0);
        Counted y = withClimbers(one(LIGHT, 10, 0, 0), one(LEADER, 3, 0, 0));
        due("the first, if nobody SAGS, the other, if it does", y.canSay(0), 3);
        Counted z = withClimbers(one(GUIDE, 1, 0, 0), one(PLAIN, 2, 0, 0));
        due("the other way about", z.canSay(7), 3);
        for (int w : new int[] {-1, 8, LOWEST, GREATEST}) {
            bad(x, "canSay(" + w + ")", () -> x.canSay(w));
        }
    }

    private static void mine() {
        promise = "19";
        Counted x = withClimbers(one(FAT, 8, 0, 0), one(GUIDE, 6, 0, 0), one(LEADER, 8, 0, 0));
        x.pitch(2, 3, 3, 3);
        x.pitch(5, 6, 6, 6);
        x.ice(7, 1);
        due("mine(0)", x.mine(0), 0);
        due("of like ones the first; on ICE", x.mine(1), 4 | 32 | 128);
        due("mine(2)", x.mine(2), 32 | 128);
        x.rest(0, 1);
        due("RESTS as now", x.mine(0), 255);
        due("mine(1)", x.mine(1), 0);
        due("mine(2)", x.mine(2), 128);
        x.sag(1, 1);
        due("whoever SAGS now", x.mine(2), 128);
        for (int w : new int[] {-1, 3, LOWEST, GREATEST}) {
            bad(x, "mine(" + w + ")", () -> x.mine(w));
        }
    }

    private static void order(Counted x, int climber, int most, int... order) {
        due("tied(" + climber + ", -1)", x.tied(climber, -1), most);
        for (int i = 0; i < order.length; i++) {
            due("tied(" + climber + ", " + i + ")", x.tied(climber, i), order[i]);
        }
    }

    private static void tied() {
        promise = "20";
        Counted x = withClimbers(one(PLAIN, 10, 0, 0), one(SHORT, 14, 0, 0), one(FAT, 9, 0, 0), one(LEADER, 30, 9, 0));
        x.ice(0, 1);
        x.pitch(1, 1, 2, 2);
        x.pitch(2, 2, 3, 3);
        // SHORT hangs 7 and twice its place; at HARD 2 FAT hangs 11, as SHORT does at place 2.
        order(x, 0, 7, 0, 1, 2, 3);
        order(x, 1, 7, 0, 2, 3, 1);
        order(x, 2, 3, 2, 1, 0, 3);
        x.sag(3, 1);
        order(x, 3, 0, 0, 1, 2, 3);
        x.rest(0, 1);
        order(x, 0, 0, 0, 1, 2, 3);
        order(x, 1, 8, 0, 3, 1, 2);
        due("SAGS stays", x.of(3, 4), 1);
        notRefused(x, "tied(0, 4)", () -> x.tied(0, 4), -5);
        notRefused(x, "tied(0, the greatest)", () -> x.tied(0, GREATEST), -5);
        for (int w : new int[] {-2, LOWEST}) {
            otherBad(x, "tied(0, " + w + ")", () -> x.tied(0, w));
        }
        for (int w : new int[] {-1, 4, LOWEST, GREATEST}) {
            otherBad(x, "tied(" + w + ", 0)", () -> x.tied(w, 0));
            otherBad(x, "tied(" + w + ", 9)", () -> x.tied(w, 9));
        }
    }

    private static void cut() {
        promise = "21";
        Counted x = withClimbers(one(PLAIN, 10, 0, 0), one(LEADER, 9, 0, 0), one(PLAIN, 9, 0, 0), one(SHORT, 16, 0, 0));
        due("cut(0, 0)", x.cut(0, 0), 0);
        due("cut(0, 1): SHORT at place 2", x.cut(0, 1), 3);
        due("cut(1, 1): SHORT at place 1", x.cut(1, 1), 3);
        due("cut(2, 1): SHORT at place 0", x.cut(2, 1), 3);
        x.climber(PLAIN, 10, 0, 0);
        due("cut(2, 1): 8 at place 0, and 10", x.cut(2, 1), 4);
        due("cut(1, 1): 10 at place 1, and 10", x.cut(1, 1), 3);
        due("cut(3, 0)", x.cut(3, 0), 3);
        due("cut(3, 1)", x.cut(3, 1), 4);
        x.ice(0, 1);
        due("on ICE", x.cut(0, 1), 2);
        x.sag(1, 1);
        due("SAGS as now", x.cut(0, 1), 1);
        x.rest(0, 1);
        notRefused(x, "nobody", () -> x.cut(0, 0), -1);
        due("on the first", x.cut(1, 0), 1);
        for (int w : new int[] {-1, 4, 5, LOWEST, GREATEST}) {
            otherBad(x, "cut(" + w + ", 0)", () -> x.cut(w, 0));
        }
        for (int w : new int[] {-1, 2, LOWEST, GREATEST}) {
            otherBad(x, "cut(0, " + w + ")", () -> x.cut(0, w));
        }
        x.go();
        due("at this PITCH", x.cut(0, 1), 3);
        goTo(x, 7);
        due("at PITCH 7", x.cut(2, 1), 4);
        goToTop(x);
        no(x, "cut(0, 0) at THE TOP", () -> x.cut(0, 0));
        otherBad(x, "BAD ahead of NO", () -> x.cut(4, 0));
        Counted y = withClimbers(one(PLAIN, 1, 0, 0));
        otherBad(y, "of one alone", () -> y.cut(0, 0));
        Counted z = new Counted();
        otherBad(z, "of none", () -> z.cut(0, 0));
    }

    private static void rests() {
        promise = "22";
        Counted x = withClimbers(one(GUIDE, 10, 0, 0), one(GUIDE, 10, 0, 0), one(PLAIN, 12, 0, 0));
        // None: 2 says, a or b would gain. a alone: a says (15). b alone: a gains. Both: a says, b can not.
        due("rests(0, 1)", x.rests(0, 1), 2 | 8);
        due("rests(1, 0)", x.rests(1, 0), 4 | 8);
        due("rests(0, 2)", x.rests(0, 2), 2 | 8);
        due("rests(2, 0)", x.rests(2, 0), 4 | 8);
        x.sag(1, 1);
        due("the other SAGS as now: 0 is the first of like ones", x.rests(0, 2), 2 | 8);
        x.sag(0, 1);
        due("instead of as now", x.rests(0, 1), 2 | 8);
        due("SAGS stays", x.of(0, 4) + x.of(1, 4), 2);
        x.rest(0, 1);
        x.rest(1, 1);
        due("2 says, whatever they do", x.rests(0, 1), 15);
        x.ice(1, 1);
        x.go();
        x.rest(2, 1);
        due("at this PITCH, on ICE: a, if it SAGS, else b", x.rests(0, 1), 2 | 8);
        due("rests(1, 0)", x.rests(1, 0), 4 | 8);
        for (int w : new int[] {-1, 3, LOWEST, GREATEST}) {
            bad(x, "rests(" + w + ", 0)", () -> x.rests(w, 0));
            bad(x, "rests(0, " + w + ")", () -> x.rests(0, w));
        }
        bad(x, "alike", () -> x.rests(1, 1));
        goTo(x, 7);
        x.rest(1, 0);
        x.rest(2, 0);
        due("at PITCH 7: 1 says, if it SAGS, else 2, and 0 never", x.rests(0, 1), 4 | 8);
        x.rest(2, 1);
        due("1 says in any case", x.rests(0, 1), 15);
        due("1 says in any case", x.rests(1, 2), 15);
        goToTop(x);
        no(x, "rests(0, 1) at THE TOP", () -> x.rests(0, 1));
        bad(x, "BAD ahead of NO", () -> x.rests(0, 0));
    }

    private static void noteAndForget() {
        promise = "23";
        Counted x = withClimbers(one(PLAIN, 10, 0, 0), one(PLAIN, 9, 0, 0));
        due("note(0, -1)", x.note(0, -1), 1);
        due("note(7, 1)", x.note(7, 1), 2);
        for (int w : new int[] {-1, 8, LOWEST, GREATEST}) {
            bad(x, "note(" + w + ", 0)", () -> x.note(w, 0));
        }
        for (int w : new int[] {-2, 2, LOWEST, GREATEST}) {
            bad(x, "note(0, " + w + ")", () -> x.note(0, w));
        }
        for (int i = 3; i <= 6; i++) {
            due("note(3, 0)", x.note(3, 0), i);
        }
        full(x, "a 7th", () -> x.note(3, 0));
        bad(x, "BAD ahead of FULL", () -> x.note(8, 0));
        promise = "24";
        due("forget()", x.forget(), 6);
        due("count(4)", x.count(4), 0);
        due("forget()", x.forget(), 0);
        due("stones(0)", x.stones(0), 1023);
        due("note(0, 0)", x.note(0, 0), 1);
        due("forget()", x.forget(), 1);
        Counted y = new Counted();
        due("nobody, without CLIMBERS", y.note(0, -1), 1);
        bad(y, "note(0, 0)", () -> y.note(0, 0));
    }

    private static void stones() {
        promise = "25";
        Counted x = withClimbers(one(PLAIN, 10, 7, 0), one(PLAIN, 14, 0, 0), one(GUIDE, 13, 0, 0));
        due("no NOTES", x.stones(0), 1023);
        x.note(0, 0);
        due("of like ones the first: 4 to 9", x.stones(0), 1008);
        due("of 1: 0 to 3", x.stones(1), 15);
        x.sag(2, 1);
        due("nobody SAGS", x.stones(0), 1008);
        x.rest(1, 1);
        due("RESTS as now", x.stones(0), 1016);
        x.rest(1, 0);
        x.forget();
        x.note(3, 1);
        due("0 to 3", x.stones(0), 15);
        x.ice(3, 1);
        due("on ICE", x.stones(0), 0);
        x.ice(3, 0);
        x.note(2, 0);
        due("two that can not be at once", x.stones(0), 0);
        x.pitch(3, 6, 4, 4);
        due("HARD is nothing to them", x.stones(0), 0);
        due("STONE stays", x.of(0, 2), 7);
        stonesOfNobody();
        for (int w : new int[] {-1, 3, LOWEST, GREATEST}) {
            bad(x, "stones(" + w + ")", () -> x.stones(w));
        }
    }

    private static void stonesOfNobody() {
        Counted x = withClimbers(one(LIGHT, 1, 0, 0));
        x.note(0, -1);
        due("nobody: LIGHT of WEIGHT 1 hangs 0 with STONE 0 alone", x.stones(0), 1);
        due("is(0), nobody: LIGHT, SHORT, LEADER", x.is(0), 2 | 16 | 32);
        x.rest(0, 1);
        due("one who RESTS", x.stones(0), 1023);
    }

    private static void is() {
        promise = "26";
        Counted x = withClimbers(one(PLAIN, 10, 0, 0), one(PLAIN, 11, 0, 0), one(PLAIN, 9, 9, 0));
        due("no NOTES", x.is(0), 63);
        x.note(0, 2);
        due("18 by PLAIN, GUIDE, FAT; 9 by LIGHT; 13 by SHORT", x.is(2), 1 | 4 | 8 | 16);
        x.pitch(1, 9, 2, 2);
        x.note(1, 0);
        due("of 0: FAT is 10 and 19", x.is(0), 8);
        due("of 2", x.is(2), 0);
        x.sag(0, 1);
        due("nobody SAGS", x.is(0), 8);
        due("KIND stays", x.of(0, 0), 0);
        x.forget();
        x.note(4, 1);
        x.rest(2, 1);
        due("RESTS as now", x.is(1), 1 | 4 | 8);
        for (int w : new int[] {-1, 3, LOWEST, GREATEST}) {
            bad(x, "is(" + w + ")", () -> x.is(w));
        }
    }

    private static void look() {
        promise = "27";
        Counted x = withClimbers(one(PLAIN, 5, 0, 0), one(FAT, 5, 0, 0));
        int[] hard = {0, 9, 3, 5, 4, 6, 5, 1};
        for (int p = 0; p < 8; p++) {
            x.pitch(p, hard[p], p + 1, p + 1);
        }
        // With STONE s, 0 says where HARD is s at most.
        due("5 and 5; of like ones the first", x.look(0), 3);
        x.note(3, 1);
        due("0 to 4 are left: HARD 3 parts them 2, 3", x.look(0), 2);
        x.note(2, 0);
        due("3, 4 are left: HARD 4", x.look(0), 4);
        x.note(4, 0);
        due("4 is left: all alike", x.look(0), 0);
        x.note(4, 1);
        notRefused(x, "none is left", () -> x.look(0), -1);
        x.forget();
        x.sag(0, 1);
        due("look(0)", x.look(0), 3);
        // FAT's own STONE: it says where HARD and STONE are above 0.
        due("look(1): nothing parts better than HARD 0", x.look(1), 0);
        due("STONE stays", x.of(0, 2), 0);
        Counted y = withClimbers(one(GUIDE, 1, 0, 0), one(PLAIN, 6, 0, 0));
        y.pitch(4, 2, 5, 5);
        y.sag(0, 1);
        due("nobody SAGS", y.look(0), 0);
        y.climber(FAT, 4, 0, 0);
        due("by 6, by 6 still", y.look(0), 0);
        Counted z = withClimbers(one(PLAIN, 1, 0, 0), one(FAT, 1, 0, 0));
        z.pitch(7, 5, 8, 8);
        due("PITCH 7", z.look(0), 7);
        z.pitch(7, 0, 8, 8);
        z.pitch(6, 1, 7, 7);
        due("STONE 0 alone is parted from the others", z.look(0), 6);
        for (int w : new int[] {-1, 2, LOWEST, GREATEST}) {
            bad(x, "look(" + w + ")", () -> x.look(w));
        }
    }

    private static void fraction(Counted x, String what, long above, long below) {
        due(what + ": above", x.part(0), above);
        due(what + ": below", x.part(1), below);
    }

    private static void slips() {
        promise = "28";
        Counted x = withClimbers(one(PLAIN, 10, 0, 0), one(PLAIN, 9, 0, 0), one(PLAIN, 8, 0, 0));
        due("slips(0, 4)", x.slips(0, 4), 1);
        fraction(x, "nobody RESTS", 1, 1);
        x.slips(1, 4);
        fraction(x, "1 never says", 0, 1);
        x.rest(0, 1);
        x.slips(0, 4);
        fraction(x, "0 says, if it slips", 2, 5);
        x.slips(1, 4);
        fraction(x, "else 1", 3, 5);
        x.rest(1, 1);
        x.slips(1, 3);
        fraction(x, "1 slips, 0 does not", 21, 100);
        x.rest(2, 1);
        x.slips(2, 7);
        fraction(x, "2 slips alone", 63, 1000);
        x.slips(2, 0);
        fraction(x, "by 0", 0, 1);
        x.slips(0, 10);
        fraction(x, "by 10", 1, 1);
        x.slips(1, 10);
        fraction(x, "by 10", 0, 1);
        x.climber(PLAIN, 7, 0, 0);
        x.climber(LEADER, 30, 0, 0);
        x.rest(3, 1);
        x.slips(3, 9);
        fraction(x, "3 slips alone", 9, 10000);
        x.sag(4, 1);
        x.rest(4, 1);
        x.slips(4, 1);
        // 4 HANGS 35, where it slips; 5, where not, less than any other who slips.
        fraction(x, "SAGS as now", 10000 + 9 * 6561, 100000);
        due("RESTS stays", x.count(3), 5);
        x.ice(1, 1);
        x.go();
        x.sag(4, 1);
        x.slips(4, 1);
        fraction(x, "at this PITCH, on ICE", 6561, 10000);
        for (int w : new int[] {-1, 5, LOWEST, GREATEST}) {
            bad(x, "slips(" + w + ", 0)", () -> x.slips(w, 0));
        }
        for (int w : new int[] {-1, 11, LOWEST, GREATEST}) {
            bad(x, "slips(0, " + w + ")", () -> x.slips(0, w));
        }
        goTo(x, 7);
        x.slips(0, 2);
        fraction(x, "at PITCH 7", 1, 5);
        goToTop(x);
        no(x, "slips(0, 1) at THE TOP", () -> x.slips(0, 1));
        bad(x, "BAD ahead of NO", () -> x.slips(0, 11));
        fraction(x, "THE FRACTION stays", 1, 5);
    }

    private static void walls() {
        promise = "29";
        Counted x = withClimbers(one(PLAIN, 10, 0, 0), one(LEADER, 9, 0, 255), one(LEADER, 6, 0, 255));
        for (int p = 0; p < 8; p++) {
            x.pitch(p, 0, p + 1, Math.min(p + 2, 8));
        }
        x.sag(1, 1);
        x.go();
        x.sag(2, 1);
        int[] seeds = {0, 1, 77, 999999};
        for (int seed : seeds) {
            for (int n = 0; n <= 60; n += 20) {
                for (int p = 0; p <= 8; p++) {
                    due("walls(" + seed + ", " + n + ", " + p + ")", x.walls(seed, n, p), timesBy(seed, n, p));
                }
            }
        }
        due("nothing has changed", x.of(2, 4), 1);
        goToTop(x);
        due("at THE TOP", x.walls(3, 7, 8), 7);
        due("at THE TOP", x.walls(3, 7, 7), 0);
        for (int w : new int[] {-1, 1000000, LOWEST, GREATEST}) {
            bad(x, "walls(" + w + ", 0, 0)", () -> x.walls(w, 0, 0));
        }
        for (int w : new int[] {-1, 61, LOWEST, GREATEST}) {
            bad(x, "walls(0, " + w + ", 0)", () -> x.walls(0, w, 0));
        }
        for (int w : new int[] {-1, 9, LOWEST, GREATEST}) {
            bad(x, "walls(0, 0, " + w + ")", () -> x.walls(0, 0, w));
        }
        due("of none", new Counted().walls(5, 60, 0), 60);
        due("through all PITCHES", new Counted().walls(5, 60, 8), 60);
    }

    /** On the wall of walls(): from pitch 2, RIGHT where 1 or 2 sags (14, 11 above 10), else LEFT. */
    private static int timesBy(long seed, int n, int told) {
        long x = seed;
        int times = 0;
        for (int turn = 0; turn < n; turn++) {
            int at = 2;
            boolean came = told == 2;
            while (at < 8) {
                x = (x * 1103515245L + 12345L) & 0x7fffffffL;
                boolean right = (x >> 16 & 6) != 0;
                at = Math.min(8, right ? at + 2 : at + 1);
                came |= at == told;
            }
            times += came ? 1 : 0;
        }
        return times;
    }

    private static void part() {
        promise = "30";
        Counted x = withClimbers(one(PLAIN, 10, 0, 0));
        x.rest(0, 1);
        x.slips(0, 6);
        due("part(0)", x.part(0), 3);
        due("part(1)", x.part(1), 5);
        for (int w : new int[] {-1, 2, LOWEST, GREATEST}) {
            bad(x, "part(" + w + ")", () -> x.part(w));
        }
    }

    private static void images() {
        promise = "31";
        imagesOfPitches();
        Counted x = withClimbers(one(PLAIN, 10, 0, 0), one(GUIDE, 8, 3, 1));
        x.pitch(0, 3, 2, 4);
        x.ice(5, 1);
        x.rest(0, 1);
        x.go();
        x.sag(1, 1);
        x.note(2, 1);
        long digest = x.digest();
        due("image(1)", x.image(1), 1);
        due("nothing has changed", x.digest(), digest);
        for (int w : new int[] {-1, 2, LOWEST, GREATEST}) {
            bad(x, "image(" + w + ")", () -> x.image(w));
        }
        promise = "32";
        no(x, "from(0)", () -> x.from(0));
        for (int w : new int[] {-1, 2, LOWEST, GREATEST}) {
            bad(x, "from(" + w + ")", () -> x.from(w));
        }
        x.wall();
        x.climber(PLAIN, 1, 0, 0);
        due("image(0)", x.image(0), 1);
        x.type(65);
        due("from(1)", x.from(1), 1);
        due("THE TEXT stays", x.count(6), 1);
        x.clear();
        due("all is as it was", x.digest(), digest);
        due("what may be undone is kept", x.undo(), 4);
        due("of(1, 4)", x.of(1, 4), 0);
        due("undo()", x.undo(), 0);
        due("from(1) again", x.from(1), 1);
        due("all is as it was", x.digest(), digest);
        due("from(0)", x.from(0), 1);
        due("count(0)", x.count(0), 1);
        due("image(1) anew", x.image(1), 1);
        x.climber(PLAIN, 1, 0, 0);
        due("from(1)", x.from(1), 1);
        due("count(0)", x.count(0), 1);
        x.rest(0, 1);
        x.slips(0, 5);
        int bads = x.status(0);
        x.from(0);
        due("THE FRACTION stays", x.part(1), 2);
        due("STATUS stays", x.status(0), bads);
    }

    private static void imagesOfPitches() {
        for (int p = 0; p < 8; p++) {
            Counted x = new Counted();
            x.pitch(p, p + 1, Math.min(p + 2, 8), 8);
            x.ice(p, 1);
            long digest = x.digest();
            x.image(0);
            x.wall();
            x.from(0);
            due("PITCH " + p + " from an IMAGE", x.digest(), digest);
        }
    }

    private static void status() {
        promise = "33";
        Counted x = new Counted();
        due("status(3)", x.status(3), -1);
        due("counts as BAD", x.status(0), 1);
        due("status(-1)", x.status(-1), -1);
        due("status(lowest)", x.status(LOWEST), -1);
        due("status(0)", x.status(0), 3);
        x.undo();
        x.from(0);
        due("status(1)", x.status(1), 2);
        for (int i = 0; i < 6; i++) {
            x.climber(PLAIN, 1, 0, 0);
        }
        due("status(2)", x.status(2), 1);
        due("none else", x.status(0) * 10 + x.status(1), 32);
        x.says(8);
        x.path(-2);
        x.tied(5, 0);
        x.cut(4, 0);
        due("others count as these", x.status(0), 7);
    }

    private static void count() {
        promise = "34";
        Counted x = withClimbers(one(PLAIN, 10, 0, 0), one(GUIDE, 8, 3, 1), one(GUIDE, 8, 3, 1), one(GUIDE, 8, 3, 1));
        x.pitch(0, 0, 5, 6);
        x.go();
        x.sag(1, 1);
        x.sag(3, 1);
        x.rest(0, 1);
        x.rest(2, 1);
        x.rest(3, 1);
        x.note(0, 0);
        type(x, "wall");
        int[] want = {4, 6, 2, 3, 1, 6, 4};
        for (int what = 0; what <= 6; what++) {
            due("count(" + what + ")", x.count(what), want[what]);
        }
        for (int w : new int[] {-1, 7, LOWEST, GREATEST}) {
            bad(x, "count(" + w + ")", () -> x.count(w));
        }
    }

    private static long fold(long... values) {
        long h = 1153;
        for (long v : values) {
            h = 31 * h + v;
        }
        return h;
    }

    private static void digest() {
        promise = "35";
        due("at first", new Counted().digest(), fold(0, 0, 0, 0, 0, 0, 0,
            0, 0, 1, 1, 0, 0, 2, 2, 0, 0, 3, 3, 0, 0, 4, 4, 0, 0, 5, 5, 0, 0, 6, 6, 0, 0, 7, 7, 0, 0, 8, 8, 0, 1));
        Counted x = withClimbers(one(PLAIN, 10, 2, 64), one(GUIDE, 8, 3, 1));
        x.pitch(0, 3, 4, 6);
        x.pitch(7, 9, 8, 8);
        x.ice(2, 1);
        x.rest(0, 1);
        x.slips(0, 3);
        x.go();
        x.sag(1, 1);
        x.note(2, 1);
        x.note(5, -1);
        x.type(1);
        due("digest()", x.digest(), fold(2, 6, 1, 1, 2, 3, 1,
            0, 3, 4, 6, 0, 0, 2, 2, 1, 0, 3, 3, 0, 0, 4, 4, 0, 0, 5, 5, 0, 0, 6, 6, 0, 0, 7, 7, 0, 9, 8, 8,
            0, 10, 2, 64, 0, 1, 2, 8, 3, 1, 1, 0, 2, 1, 5, -1, 3, 10));
        due("none was refused", x.status(0), 0);
    }
}
