import java.math.BigInteger;
import java.util.ArrayList;
import java.util.List;
import java.util.function.LongSupplier;

/** The sentences of 'what there is' (promises 30 to 35) that name a boundary case, each with a test of its own. */
public final class KeptSentencesTest extends Sentences {
    public static void main(String[] args) throws Exception {
        run(KeptSentencesTest.class, 30, 35, args);
    }

    // ---- 30: part

    @Sentence(promise = 30, says = "THE FRACTION: above (0), below (1). BAD.")
    static void partIs0Or1() {
        Counted x = withClimbers(1);
        x.rest(0, 1);
        x.slips(0, 3);
        due("part(0)", x.part(0), 3);
        due("part(1)", x.part(1), 10);
        for (int w : new int[] {-1, 2, LOWEST, GREATEST}) {
            bad(x, "part(" + w + ")", () -> x.part(w));
        }
    }

    // ---- 31, 32: image, from

    @Sentence(promise = 31, says = "An IMAGE is kept: 1. BAD.")
    static void imagesAre0And1() {
        Counted x = withClimbers(1);
        asks(x, "image(0)", () -> x.image(0), 1);
        asks(x, "image(1)", () -> x.image(1), 1);
        asks(x, "image(1) again", () -> x.image(1), 1);
        for (int w : new int[] {-1, 2, LOWEST, GREATEST}) {
            bad(x, "image(" + w + ")", () -> x.image(w));
        }
    }

    @Sentence(promise = 32, says = "It goes on from an IMAGE: 1. BAD; NO: none was kept.")
    static void fromIsOfAnImageThatWasKept() {
        Counted x = withClimbers(1);
        no(x, "from(0) at first", () -> x.from(0));
        no(x, "from(1) at first", () -> x.from(1));
        for (int w : new int[] {-1, 2, LOWEST, GREATEST}) {
            bad(x, "from(" + w + ")", () -> x.from(w));
        }
        x.image(1);
        no(x, "from(0), where 1 was kept", () -> x.from(0));
        asks(x, "from(1)", () -> x.from(1), 1);
        asks(x, "from(1) again", () -> x.from(1), 1);
        Counted y = new Counted();
        y.image(0);
        no(y, "from(1), where 0 was kept", () -> y.from(1));
        y.climber(PLAIN, 1, 0, 0);
        due("from(0), of an object as at first", y.from(0), 1);
        due("count(0)", y.count(0), 0);
    }

    @Sentence(promise = {31, 32}, says = "IMAGES 0, 1 keep all but them, THE TEXT, THE FRACTION and STATUS;")
    static void imagesKeepAllButTextFractionStatus() {
        Counted x = withClimbers(2);
        x.rest(0, 1);
        type(x, "wall;");
        x.slips(0, 1);
        x.ice(8, 0);
        x.image(0);
        x.clear();
        type(x, "wall;ice 3;");
        x.slips(0, 7);
        x.ice(8, 0);
        x.from(1);
        due("from(0)", x.from(0), 1);
        due("bytes of THE TEXT", x.count(6), 11);
        fractionIs(x, "THE FRACTION", 7, 10);
        due("STATUS of BAD", x.status(0), 2);
        due("STATUS of NO", x.status(1), 1);
        due("THE TEXT", x.read(), 2);
        due("ICE that THE TEXT tells", x.ice(3, 0), 1);
    }

    @Sentence(promise = {31, 32}, says = "keep all but them")
    static void imagesDoNotKeepImages() {
        Counted x = withClimbers(1);
        x.image(0);
        x.climber(PLAIN, 1, 0, 0);
        x.image(1);
        x.from(0);
        due("CLIMBERS of IMAGE 0", x.count(0), 1);
        due("from(1), which was kept behind 0", x.from(1), 1);
        due("CLIMBERS of IMAGE 1", x.count(0), 2);
        x.climber(PLAIN, 1, 0, 0);
        x.image(0);
        x.from(1);
        x.from(0);
        due("CLIMBERS of IMAGE 0 anew", x.count(0), 3);
    }

    @Sentence(promise = {31, 32}, says = "it goes on from one.")
    static void imagesKeepAll() {
        for (int i = 0; i < 2; i++) {
            Counted x = new Counted();
            for (int c = 0; c < 5; c++) {
                x.climber(c, 30 - c, c, 255 - c);
            }
            for (int p = 0; p < 8; p++) {
                x.pitch(p, 9 - p, p + 1, 8);
                x.ice(p, p % 2);
            }
            for (int k = 0; k < 6; k++) {
                x.note(k, k - 1);
            }
            x.rest(0, 1);
            x.go();
            x.sag(4, 1);
            x.rest(3, 1);
            long digest = x.digest();
            x.image(i);
            x.wall();
            x.climber(PLAIN, 1, 0, 0);
            for (int k = 0; k < 6; k++) {
                x.note(7, 0);
            }
            x.sag(0, 1);
            due("from(" + i + ")", x.from(i), 1);
            due("all is as it was", x.digest(), digest);
            x.undo();
            x.forget();
            x.ice(0, 1);
            x.pitch(7, 9, 8, 8);
            due("from(" + i + ") again", x.from(i), 1);
            due("what came behind has not changed the IMAGE", x.digest(), digest);
            full(x, "CLIMBERS are five", () -> x.climber(PLAIN, 1, 0, 0));
            full(x, "NOTES are six", () -> x.note(0, 0));
        }
    }

    @Sentence(promise = {12, 31, 32}, says = "what may be undone they keep")
    static void imagesKeepWhatMayBeUndone() {
        Counted x = new Counted();
        goTo(x, 8);
        x.image(0);
        for (int p = 7; p >= 4; p--) {
            due("undo()", x.undo(), p);
        }
        x.image(1);
        x.go();
        x.go();
        due("from(0)", x.from(0), 1);
        due("count(5) of IMAGE 0", x.count(5), 8);
        for (int p = 7; p >= 0; p--) {
            due("undo() from IMAGE 0", x.undo(), p);
        }
        no(x, "the ninth", x::undo);
        due("from(1)", x.from(1), 1);
        due("count(5) of IMAGE 1", x.count(5), 4);
        due("undo() from IMAGE 1", x.undo(), 3);
        Counted y = new Counted();
        y.image(0);
        y.go();
        y.from(0);
        no(y, "undo() from an IMAGE where none may be", y::undo);
    }

    @Sentence(promise = {12, 31, 32}, says = "what may be undone they keep; it goes on from one.")
    static void imagesKeepHowItWasAheadOfEach() {
        Counted x = withClimbers(3);
        x.pitch(0, 0, 3, 3);
        x.go();
        for (int c = 0; c < 3; c++) {
            x.rest(c, 1);
            x.sag(c, 1);
        }
        x.go();
        x.image(0);
        for (int i = 0; i < 8; i++) {
            x.rest(1, i % 2);
        }
        due("from(0)", x.from(0), 1);
        due("undo() of GOING", x.undo(), 3);
        due("who SAG then", x.count(2), 3);
        due("who REST then", x.count(3), 3);
        for (int c = 2; c >= 0; c--) {
            due("undo() of SAG", x.undo(), 3);
            due("who SAG then", x.count(2), c);
            due("who REST then", x.count(3), c + 1);
            due("undo() of REST", x.undo(), 3);
            due("who REST then", x.count(3), c);
        }
        due("undo() of the first GOING", x.undo(), 0);
        no(x, "the ninth", x::undo);
    }

    // ---- 33: status

    @Sentence(promise = 33, says = "STATUS: BAD (0), NO (1), FULL (2). -1: another what (counts as BAD).")
    static void statusOfAnotherWhatIsBad() {
        Counted x = new Counted();
        for (int what = 0; what < 3; what++) {
            due("status(" + what + ") at first", x.status(what), 0);
        }
        for (int w : new int[] {-1, 3, LOWEST, GREATEST}) {
            bad(x, -1, "status(" + w + ")", () -> x.status(w));
        }
        due("status(0)", x.status(0), 4);
    }

    /** Every call that can be refused as BAD, with what it answers then, on an object of two climbers. */
    private static List<LongSupplier> badCalls(Counted x) {
        return List.of(() -> x.pitch(8, 0, 8, 8), () -> x.ice(8, 0), () -> x.climber(6, 1, 0, 0), () -> x.type(128),
            () -> x.sag(2, 0), () -> x.rest(2, 0), () -> x.of(2, 0), () -> x.hangs(0, 8), () -> x.by(9, 0),
            () -> x.canSay(8), () -> x.mine(2), () -> x.rests(0, 0), () -> x.note(8, 0), () -> x.stones(2),
            () -> x.is(2), () -> x.look(2), () -> x.slips(2, 0), () -> x.walls(0, 61, 0), () -> x.part(2),
            () -> x.image(2), () -> x.from(2), () -> x.count(7));
    }

    private static List<LongSupplier> otherBadCalls(Counted x) {
        return List.of(() -> x.says(8), () -> x.path(-2), () -> x.tied(2, 0), () -> x.cut(1, 0));
    }

    @Sentence(promise = 33, says = "(each answer told so below is such a one)")
    static void eachCallThatIsRefusedIsCounted() {
        Counted x = withClimbers(2);
        int bads = 0;
        for (LongSupplier call : badCalls(x)) {
            due("a call that is BAD", call.getAsLong(), -2);
            bads++;
            due("status(0) behind call " + bads, x.status(0), bads);
        }
        goTo(x, 8);
        List<LongSupplier> noes = List.of(x::go, () -> x.cut(0, 0), () -> x.rests(0, 1), () -> x.slips(0, 0),
            () -> x.from(0));
        for (int i = 0; i < noes.size(); i++) {
            due("a call that is NO", noes.get(i).getAsLong(), -3);
            due("status(1)", x.status(1), i + 1);
        }
        x.wall();
        due("undo()", x.undo(), -3);
        due("status(1)", x.status(1), noes.size() + 1);
        for (int i = 0; i < 6; i++) {
            due("note(0, -1)", x.note(0, -1), i + 1);
        }
        due("note(0, -1), FULL", x.note(0, -1), -4);
        due("status(2)", x.status(2), 1);
        for (int i = 0; i < 5; i++) {
            due("climber(0, 1, 0, 0)", x.climber(0, 1, 0, 0), i);
        }
        due("climber(0, 1, 0, 0), FULL", x.climber(0, 1, 0, 0), -4);
        due("status(2)", x.status(2), 2);
        for (int i = 0; i < 150; i++) {
            x.type(32);
        }
        due("type(32), FULL", x.type(32), -4);
        due("status(2)", x.status(2), 3);
        due("status(0) stays", x.status(0), bads);
        due("status(1) stays", x.status(1), noes.size() + 1);
    }

    @Sentence(promise = {15, 16, 20, 21, 33}, says = "(where others are told they count as these)")
    static void otherAnswersCountAsThese() {
        Counted x = withClimbers(2);
        for (LongSupplier call : otherBadCalls(x)) {
            bad(x, -10, "a call that is BAD, by -10", call);
        }
        bad(x, -1, "status(3)", () -> x.status(3));
        due("status(0)", x.status(0), 5);
        asks(x, "path(8), not so many", () -> x.path(8), -5);
        asks(x, "tied(0, 2), not so many", () -> x.tied(0, 2), -5);
    }

    @Sentence(promise = 33, says = "Refused, changing nothing but STATUS, the first of: "
        + "BAD -2 a number is not as told; NO -3 as told; FULL -4")
    static void whatIsRefusedChangesNothingButStatus() {
        Counted x = withClimbers(2);
        x.image(1);
        x.rest(0, 1);
        x.slips(0, 3);
        x.go();
        x.sag(1, 1);
        x.note(3, -1);
        type(x, "wall;ice 6;");
        x.image(0);
        long digest = x.digest();
        List<LongSupplier> all = new ArrayList<>(badCalls(x));
        all.addAll(otherBadCalls(x));
        all.add(() -> x.status(3));
        for (LongSupplier call : all) {
            call.getAsLong();
        }
        due("status(0)", x.status(0), all.size());
        due("digest()", x.digest(), digest);
        due("undo() of SAG", x.undo(), 1);
        due("SAGS", x.of(1, 4), 0);
        due("undo() of GOING", x.undo(), 0);
        due("undo() of REST", x.undo(), 0);
        due("RESTS", x.of(0, 5), 0);
        due("from(0)", x.from(0), 1);
        due("digest() of IMAGE 0", x.digest(), digest);
        due("from(1)", x.from(1), 1);
        due("count(1) of IMAGE 1", x.count(1), 0);
        due("THE TEXT", x.read(), 2);
        due("ICE that THE TEXT tells", x.ice(6, 0), 1);
    }

    @Sentence(promise = {5, 6, 21, 22, 23, 28, 32, 33}, says = "the first of: BAD -2 a number is not as told;")
    static void badIsLookedAtFirst() {
        Counted x = withClimbers(5);
        for (int i = 0; i < 6; i++) {
            x.note(0, 0);
        }
        goTo(x, 8);
        for (int i = 0; i < 150; i++) {
            x.type(32);
        }
        bad(x, "climber, FULL too", () -> x.climber(0, 0, 0, 0));
        bad(x, "type, FULL too", () -> x.type(-1));
        bad(x, "note, FULL too", () -> x.note(-1, 0));
        bad(x, -10, "cut, NO too", () -> x.cut(4, 0));
        bad(x, "rests, NO too", () -> x.rests(3, 3));
        bad(x, "slips, NO too", () -> x.slips(0, -1));
        bad(x, "from, where none was kept", () -> x.from(2));
        full(x, "climber", () -> x.climber(0, 1, 0, 0));
        full(x, "type", () -> x.type(0));
        full(x, "note", () -> x.note(0, 0));
        no(x, "cut", () -> x.cut(3, 0));
        no(x, "rests", () -> x.rests(3, 4));
        no(x, "slips", () -> x.slips(0, 0));
        no(x, "from", () -> x.from(0));
    }

    // ---- 34: count

    @Sentence(promise = 34, says = "How many: 0 CLIMBERS, 1 the PITCH, 2 who SAG, 3 who REST, 4 NOTES, "
        + "5 that may be undone, 6 bytes of THE TEXT. BAD.")
    static void countIs0To6() {
        Counted x = new Counted();
        for (int what = 0; what <= 6; what++) {
            due("count(" + what + ") at first", x.count(what), 0);
        }
        for (int w : new int[] {-1, 7, LOWEST, GREATEST}) {
            bad(x, "count(" + w + ")", () -> x.count(w));
        }
        for (int c = 0; c < 5; c++) {
            x.climber(PLAIN, 1, 0, 0);
        }
        goTo(x, 8);
        for (int c = 0; c < 5; c++) {
            x.sag(c, 1);
            x.rest(c, 1);
            due("count(2)", x.count(2), c + 1);
            due("count(3)", x.count(3), c + 1);
        }
        for (int i = 0; i < 6; i++) {
            x.note(0, -1);
        }
        for (int i = 0; i < 150; i++) {
            x.type(0);
        }
        int[] most = {5, 8, 5, 5, 6, 8, 150};
        for (int what = 0; what <= 6; what++) {
            due("count(" + what + ") at most", x.count(what), most[what]);
        }
    }

    // ---- 35: digest

    /** By numbers without an end, cut to a long's 64 bits only then. */
    private static long folded(long... values) {
        BigInteger h = BigInteger.valueOf(1153);
        for (long v : values) {
            h = h.multiply(BigInteger.valueOf(31)).add(BigInteger.valueOf(v));
        }
        return h.longValue();
    }

    @Sentence(promise = 35, says = "h = 1153; then h = 31 h + v for each v: count(0) to count(6);")
    static void digestOfANewObject() {
        Counted x = new Counted();
        due("digest() at first", x.digest(), folded(0, 0, 0, 0, 0, 0, 0,
            0, 0, 1, 1, 0, 0, 2, 2, 0, 0, 3, 3, 0, 0, 4, 4, 0, 0, 5, 5, 0, 0, 6, 6, 0, 0, 7, 7, 0, 0, 8, 8, 0, 1));
        asks(x, "digest() again", x::digest, x.digest());
    }

    @Sentence(promise = 35, says = "of PITCHES 0 to 7 ICE, HARD, LEFT, RIGHT; of CLIMBERS KIND, WEIGHT, STONE, WISHES, "
        + "SAGS, RESTS (1, 0); of NOTES the PITCH, the CLIMBER (NONE: -1); THE FRACTION.")
    static void digestOfAFullObject() {
        Counted x = new Counted();
        for (int p = 0; p < 8; p++) {
            x.pitch(p, 9, p + 1, 8);
            x.ice(p, 1);
        }
        for (int c = 0; c < 5; c++) {
            x.climber(c + 1, 30, 9, 255);
        }
        for (int c = 0; c < 5; c++) {
            x.rest(c, 1);
        }
        x.slips(4, 9);
        for (int i = 0; i < 6; i++) {
            x.note(7 - i, i - 1);
        }
        x.go();
        for (int c = 0; c < 5; c++) {
            x.sag(c, 1);
        }
        for (int i = 0; i < 150; i++) {
            x.type(127);
        }
        // Nobody SAGS, so 4, a LEADER, never says; all REST, so they go to the LEFT.
        due("digest()", x.digest(), folded(5, 1, 5, 5, 6, 8, 150,
            1, 9, 1, 8, 1, 9, 2, 8, 1, 9, 3, 8, 1, 9, 4, 8, 1, 9, 5, 8, 1, 9, 6, 8, 1, 9, 7, 8, 1, 9, 8, 8,
            1, 30, 9, 255, 1, 1, 2, 30, 9, 255, 1, 1, 3, 30, 9, 255, 1, 1, 4, 30, 9, 255, 1, 1, 5, 30, 9, 255, 1, 1,
            7, -1, 6, 0, 5, 1, 4, 2, 3, 3, 2, 4, 0, 1));
        x.undo();
        x.undo();
        x.undo();
        x.undo();
        x.undo();
        x.undo();
        x.slips(3, 1);
        x.clear();
        due("digest(), another FRACTION", x.digest(), folded(5, 0, 0, 5, 6, 2, 0,
            1, 9, 1, 8, 1, 9, 2, 8, 1, 9, 3, 8, 1, 9, 4, 8, 1, 9, 5, 8, 1, 9, 6, 8, 1, 9, 7, 8, 1, 9, 8, 8,
            1, 30, 9, 255, 0, 1, 2, 30, 9, 255, 0, 1, 3, 30, 9, 255, 0, 1, 4, 30, 9, 255, 0, 1, 5, 30, 9, 255, 0, 1,
            7, -1, 6, 0, 5, 1, 4, 2, 3, 3, 2, 4, 729, 10000));
    }

    @Sentence(promise = 35, says = "h = 31 h + v")
    static void digestWrapsAround() {
        // 31 to the 41st power is far above 64 bits: the first values are there by the wrap-around alone.
        Counted x = new Counted();
        long none = x.digest();
        x.climber(PLAIN, 1, 0, 0);
        long one = x.digest();
        due("with a CLIMBER", one, folded(1, 0, 0, 0, 0, 0, 0,
            0, 0, 1, 1, 0, 0, 2, 2, 0, 0, 3, 3, 0, 0, 4, 4, 0, 0, 5, 5, 0, 0, 6, 6, 0, 0, 7, 7, 0, 0, 8, 8,
            0, 1, 0, 0, 0, 0, 0, 1));
        x.wall();
        due("without it again", x.digest(), none);
    }
}
