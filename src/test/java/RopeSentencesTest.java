/** The sentences of 'on the rope' (promises 9 to 15) that name a boundary case, each with a test of its own. */
public final class RopeSentencesTest extends Sentences {
    public static void main(String[] args) throws Exception {
        run(RopeSentencesTest.class, 9, 15, args);
    }

    // ---- 9, 10: sag, rest

    @Sentence(promise = 9, says = "Whether a CLIMBER SAGS (1, 0): whether it did. BAD.")
    static void sagIs1Or0() {
        Counted x = withClimbers(5);
        for (int c = 0; c < 5; c += 4) {
            due("sag(" + c + ", 1)", x.sag(c, 1), 0);
            due("sag(" + c + ", 1)", x.sag(c, 1), 1);
            due("RESTS stays", x.of(c, 5), 0);
            due("sag(" + c + ", 0)", x.sag(c, 0), 1);
            due("sag(" + c + ", 0)", x.sag(c, 0), 0);
        }
        for (int w : new int[] {-1, 5, LOWEST, GREATEST}) {
            bad(x, "sag(" + w + ", 1)", () -> x.sag(w, 1));
        }
        for (int w : new int[] {-1, 2, LOWEST, GREATEST}) {
            bad(x, "sag(0, " + w + ")", () -> x.sag(0, w));
        }
    }

    @Sentence(promise = 10, says = "Whether a CLIMBER RESTS (1, 0): whether it did. BAD.")
    static void restIs1Or0() {
        Counted x = withClimbers(5);
        for (int c = 0; c < 5; c += 4) {
            due("rest(" + c + ", 1)", x.rest(c, 1), 0);
            due("rest(" + c + ", 1)", x.rest(c, 1), 1);
            due("SAGS stays", x.of(c, 4), 0);
            due("rest(" + c + ", 0)", x.rest(c, 0), 1);
            due("rest(" + c + ", 0)", x.rest(c, 0), 0);
        }
        for (int w : new int[] {-1, 5, LOWEST, GREATEST}) {
            bad(x, "rest(" + w + ", 1)", () -> x.rest(w, 1));
        }
        for (int w : new int[] {-1, 2, LOWEST, GREATEST}) {
            bad(x, "rest(0, " + w + ")", () -> x.rest(0, w));
        }
    }

    @Sentence(promise = {9, 10, 13, 14}, says = "CLIMBERS 0 .. 4")
    static void aClimberThatIsNotThereIsBad() {
        for (int n = 0; n < 5; n++) {
            Counted x = withClimbers(n);
            int next = n;
            bad(x, "sag(" + n + ", 1) of " + n, () -> x.sag(next, 1));
            bad(x, "rest(" + n + ", 1) of " + n, () -> x.rest(next, 1));
            bad(x, "of(" + n + ", 0) of " + n, () -> x.of(next, 0));
            bad(x, "hangs(" + n + ", 0) of " + n, () -> x.hangs(next, 0));
        }
    }

    @Sentence(promise = {9, 10}, says = "Each SAGS or not, RESTS or not")
    static void oneMaySagAndRestAtTheTop() {
        Counted x = withClimbers(1);
        goTo(x, 8);
        due("sag(0, 1)", x.sag(0, 1), 0);
        due("rest(0, 1)", x.rest(0, 1), 0);
        due("SAGS", x.of(0, 4), 1);
        due("RESTS", x.of(0, 5), 1);
        due("none was refused", x.status(0) + x.status(1) + x.status(2), 0);
    }

    // ---- 11: go

    @Sentence(promise = 11, says = "GOING: the PITCH (8: THE TOP). NO: they are at THE TOP.")
    static void goingEndsAtTheTop() {
        Counted x = new Counted();
        for (int p = 1; p <= 8; p++) {
            due("go()", x.go(), p);
        }
        no(x, "go() at THE TOP", x::go);
        no(x, "go() at THE TOP again", x::go);
        due("undo()", x.undo(), 7);
        due("go() from 7", x.go(), 8);
        Counted y = new Counted();
        y.pitch(0, 0, 8, 1);
        due("go() from 0 to THE TOP", y.go(), 8);
        no(y, "go() at THE TOP", y::go);
    }

    @Sentence(promise = 11, says = "GOING: to the LEFT or RIGHT as that one WISHES (nobody: LEFT)")
    static void whereNobodySaysTheyGoLeft() {
        Counted none = new Counted();
        none.pitch(0, 0, 3, 5);
        due("go() without CLIMBERS", none.go(), 3);
        Counted x = new Counted();
        x.climber(PLAIN, 30, 9, 255);
        x.climber(LEADER, 30, 9, 255);
        x.pitch(0, 0, 3, 5);
        x.pitch(5, 0, 6, 7);
        due("go(), as 0 WISHES", x.go(), 5);
        x.rest(0, 1);
        due("go(), where nobody says", x.go(), 6);
        Counted ice = new Counted();
        ice.climber(LIGHT, 1, 0, 255);
        ice.pitch(0, 0, 3, 5);
        ice.ice(0, 1);
        due("go() on ICE, where nobody says", ice.go(), 3);
    }

    @Sentence(promise = 11, says = "as that one WISHES")
    static void theyGoAsTheOneWhoSaysWishes() {
        Counted x = new Counted();
        x.climber(GUIDE, 9, 0, 0);
        x.climber(GUIDE, 9, 0, 1);
        x.pitch(0, 0, 3, 5);
        x.pitch(5, 0, 6, 7);
        due("the first of like ones WISHES LEFT", x.path(0), 3);
        x.sag(1, 1);
        due("the one who SAGS WISHES RIGHT", x.go(), 5);
        x.sag(1, 1);
        due("the same one WISHES LEFT at 5", x.go(), 6);
    }

    @Sentence(promise = 11, says = "behind it nobody SAGS.")
    static void behindGoingNobodySags() {
        Counted x = withClimbers(5);
        for (int c = 0; c < 5; c++) {
            x.sag(c, 1);
            x.rest(c, 1);
        }
        x.go();
        due("who SAG", x.count(2), 0);
        due("who REST", x.count(3), 5);
        for (int c = 0; c < 5; c++) {
            due("of(" + c + ", 4)", x.of(c, 4), 0);
        }
    }

    // ---- 12: undo

    @Sentence(promise = 12, says = "UNDO: the PITCH then. NO: none may be.")
    static void noneMayBeUndone() {
        Counted x = new Counted();
        no(x, "undo() at first", x::undo);
        x.go();
        due("undo()", x.undo(), 0);
        no(x, "undo() again", x::undo);
        goTo(x, 8);
        due("undo() at THE TOP", x.undo(), 7);
    }

    @Sentence(promise = 12, says = "UNDO: where they are, who SAGS, RESTS as ahead of the last GOING, SAG, REST told")
    static void undoIsOfTheLastToldAlone() {
        Counted x = new Counted();
        x.climber(GUIDE, 9, 0, 0);
        x.climber(GUIDE, 9, 0, 0);
        x.rest(1, 1);
        x.sag(0, 1);
        x.sag(1, 1);
        x.go();
        x.pitch(5, 3, 6, 7);
        x.ice(5, 1);
        x.note(5, 1);
        due("undo() of GOING", x.undo(), 0);
        due("SAGS of 0, 1", x.of(0, 4) * 10 + x.of(1, 4), 11);
        due("RESTS of 0, 1", x.of(0, 5) * 10 + x.of(1, 5), 1);
        due("undo() of SAG", x.undo(), 0);
        due("SAGS of 0, 1", x.of(0, 4) * 10 + x.of(1, 4), 10);
        due("undo() of SAG", x.undo(), 0);
        due("SAGS of 0, 1", x.of(0, 4) * 10 + x.of(1, 4), 0);
        due("RESTS of 0, 1", x.of(0, 5) * 10 + x.of(1, 5), 1);
        due("undo() of REST", x.undo(), 0);
        due("RESTS of 0, 1", x.of(0, 5) * 10 + x.of(1, 5), 0);
        due("a PITCH stays", x.pitch(5, 3, 6, 7), 3);
        due("ICE stays", x.ice(5, 1), 1);
        due("NOTES stay", x.count(4), 1);
    }

    @Sentence(promise = 12, says = "SAG, REST told (8 at most;")
    static void eightAtMostMayBeUndone() {
        Counted x = withClimbers(5);
        for (int c = 0; c < 5; c++) {
            x.sag(c, 1);
        }
        for (int c = 0; c < 3; c++) {
            x.rest(c, 1);
        }
        due("count(5) behind eight", x.count(5), 8);
        x.rest(3, 1);
        due("count(5) behind nine", x.count(5), 8);
        x.rest(4, 1);
        due("count(5) behind ten", x.count(5), 8);
        for (int c = 4; c >= 0; c--) {
            x.undo();
            due("who REST", x.count(3), c);
            due("RESTS of " + c, x.of(c, 5), 0);
        }
        for (int c = 4; c >= 2; c--) {
            x.undo();
            due("who SAG", x.count(2), c);
            due("SAGS of " + c, x.of(c, 4), 0);
        }
        no(x, "the ninth", x::undo);
        due("SAGS of 0, 1, which can't be undone", x.of(0, 4) + x.of(1, 4), 2);
    }

    @Sentence(promise = 12, says = "8 at most")
    static void eightGoingsMayBeUndone() {
        Counted x = new Counted();
        goTo(x, 8);
        due("count(5)", x.count(5), 8);
        for (int p = 7; p >= 0; p--) {
            due("undo()", x.undo(), p);
        }
        no(x, "the ninth", x::undo);
    }

    @Sentence(promise = 12,
        says = "UNDO: where they are, who SAGS, RESTS as ahead of the last GOING, SAG, REST told (8 at most;")
    static void theLastEightOfManyMayBeUndone() {
        Counted x = withClimbers(1);
        for (int p = 0; p < 8; p++) {
            x.sag(0, 1);
            x.go();
        }
        for (int p = 7; p >= 4; p--) {
            due("undo() of GOING from " + p, x.undo(), p);
            due("SAGS at " + p, x.of(0, 4), 1);
            due("undo() of SAG at " + p, x.undo(), p);
            due("SAGS no more at " + p, x.of(0, 4), 0);
        }
        no(x, "the ninth", x::undo);
        due("they are at", x.count(1), 4);
    }

    @Sentence(promise = {5, 12}, says = "behind a CLIMBER that comes none may be")
    static void behindAClimberNoneMayBeUndone() {
        Counted x = withClimbers(1);
        x.go();
        x.sag(0, 1);
        x.climber(PLAIN, 1, 0, 0);
        due("count(5)", x.count(5), 0);
        no(x, "undo()", x::undo);
        due("SAGS stays", x.of(0, 4), 1);
        due("the PITCH stays", x.count(1), 1);
        x.rest(1, 1);
        due("what was told behind it", x.undo(), 1);
        no(x, "undo() again", x::undo);
        x.sag(0, 0);
        x.climber(6, 1, 0, 0);
        due("one that was refused has not come", x.count(5), 1);
    }

    @Sentence(promise = 12, says = "as ahead of the last GOING, SAG, REST told")
    static void whatWasRefusedIsNotTold() {
        Counted x = withClimbers(1);
        x.sag(1, 1);
        x.sag(0, 2);
        x.rest(1, 1);
        x.rest(0, 2);
        due("count(5)", x.count(5), 0);
        goTo(x, 8);
        x.go();
        due("count(5) at THE TOP", x.count(5), 8);
        due("undo()", x.undo(), 7);
    }

    // ---- 13: of

    @Sentence(promise = 13,
        says = "KIND (0), WEIGHT (1), STONE (2), WISHES (3), SAGS (4; 1, 0), RESTS (5; 1, 0). BAD.")
    static void ofIs0To5() {
        Counted x = new Counted();
        x.climber(0, 1, 0, 0);
        x.climber(5, 30, 9, 255);
        x.sag(1, 1);
        x.rest(1, 1);
        int[][] want = {{0, 1, 0, 0, 0, 0}, {5, 30, 9, 255, 1, 1}};
        for (int c = 0; c < 2; c++) {
            for (int what = 0; what < 6; what++) {
                due("of(" + c + ", " + what + ")", x.of(c, what), want[c][what]);
            }
        }
        for (int w : new int[] {-1, 6, LOWEST, GREATEST}) {
            bad(x, "of(0, " + w + ")", () -> x.of(0, w));
        }
        for (int w : new int[] {-1, 2, LOWEST, GREATEST}) {
            bad(x, "of(" + w + ", 0)", () -> x.of(w, 0));
        }
        bad(x, "of(2, 6)", () -> x.of(2, 6));
    }

    // ---- 14: hangs

    @Sentence(promise = 14, says = "How much of a CLIMBER HANGS at a PITCH (0 .. 7). BAD.")
    static void hangsAtPitches0To7() {
        Counted x = new Counted();
        x.climber(FAT, 1, 0, 0);
        x.pitch(0, 4, 1, 1);
        x.pitch(7, 9, 8, 8);
        due("hangs(0, 0)", x.hangs(0, 0), 5);
        due("hangs(0, 7)", x.hangs(0, 7), 10);
        for (int w : new int[] {-1, 8, LOWEST, GREATEST}) {
            bad(x, "hangs(0, " + w + ")", () -> x.hangs(0, w));
        }
        for (int w : new int[] {-1, 1, LOWEST, GREATEST}) {
            bad(x, "hangs(" + w + ", 0)", () -> x.hangs(w, 0));
        }
        goTo(x, 8);
        due("hangs(0, 7) at THE TOP", x.hangs(0, 7), 10);
    }

    /** How much of the last one hangs at a hard pitch: neither, sagging, resting, both. */
    private static void hangsSo(String what, Counted x, int c, int... want) {
        for (int how = 0; how < 4; how++) {
            x.sag(c, how & 1);
            x.rest(c, how >> 1);
            due(what + (how % 2 == 1 ? ", SAGS" : "") + (how > 1 ? ", RESTS" : ""), x.hangs(c, 3), want[how]);
        }
    }

    /** One of a kind at a place, on a wall whose pitch 3 is as hard as can be. */
    private static void kindHangs(int kind, int place, int weight, int stone, int... want) {
        Counted x = withClimbers(place);
        x.pitch(3, 9, 4, 4);
        x.climber(kind, weight, stone, 0);
        hangsSo("KIND " + kind + " at place " + place + ", " + weight + " and " + stone, x, place, want);
    }

    @Sentence(promise = 14, says = "0 PLAIN: WEIGHT and STONE; 0, if one RESTS.")
    static void plainHangs() {
        kindHangs(PLAIN, 0, 1, 0, 1, 1, 0, 0);
        kindHangs(PLAIN, 4, 30, 9, 39, 39, 0, 0);
    }

    @Sentence(promise = 14, says = "1 LIGHT (under PLAIN): half (cut) of PLAIN.")
    static void lightHangs() {
        kindHangs(LIGHT, 0, 1, 0, 0, 0, 0, 0);
        kindHangs(LIGHT, 4, 1, 1, 1, 1, 0, 0);
        kindHangs(LIGHT, 4, 2, 1, 1, 1, 0, 0);
        kindHangs(LIGHT, 0, 30, 9, 19, 19, 0, 0);
    }

    @Sentence(promise = 14, says = "2 GUIDE (under PLAIN): as PLAIN; 5 more, if one SAGS (RESTS or not).")
    static void guideHangs() {
        kindHangs(GUIDE, 0, 1, 0, 1, 6, 0, 5);
        kindHangs(GUIDE, 4, 30, 9, 39, 44, 0, 5);
    }

    @Sentence(promise = 14, says = "3 FAT (under PLAIN): PLAIN and HARD; 0, if one RESTS.")
    static void fatHangs() {
        kindHangs(FAT, 0, 1, 0, 10, 10, 0, 0);
        kindHangs(FAT, 4, 30, 9, 48, 48, 0, 0);
        Counted x = new Counted();
        x.climber(FAT, 1, 0, 0);
        due("at HARD 0", x.hangs(0, 3), 1);
    }

    @Sentence(promise = 14,
        says = "4 SHORT (under LIGHT): LIGHT, and twice the place on the rope (0 the first), where LIGHT is above 0.")
    static void shortHangs() {
        for (int place = 0; place < 5; place++) {
            kindHangs(SHORT, place, 1, 0, 0, 0, 0, 0);
            kindHangs(SHORT, place, 2, 0, 1 + 2 * place, 1 + 2 * place, 0, 0);
            kindHangs(SHORT, place, 30, 9, 19 + 2 * place, 19 + 2 * place, 0, 0);
        }
    }

    @Sentence(promise = 14, says = "5 LEADER (under GUIDE): 0, if one does not SAG, else as GUIDE.")
    static void leaderHangs() {
        kindHangs(LEADER, 0, 1, 0, 0, 6, 0, 5);
        kindHangs(LEADER, 4, 30, 9, 0, 44, 0, 5);
    }

    // ---- 15: says

    @Sentence(promise = 15, says = "WHO SAYS at a PITCH. NONE. BAD: -10.")
    static void saysAtPitches0To7() {
        Counted x = withClimbers(1);
        due("says(0)", x.says(0), 0);
        due("says(7)", x.says(7), 0);
        for (int w : new int[] {-1, 8, LOWEST, GREATEST}) {
            bad(x, -10, "says(" + w + ")", () -> x.says(w));
        }
        goTo(x, 8);
        due("says(7) at THE TOP", x.says(7), 0);
        bad(x, -10, "says(8) at THE TOP", () -> x.says(8));
    }

    @Sentence(promise = 15, says = "WHO SAYS at a PITCH: the one of whom most HANGS (of like ones the first)")
    static void ofLikeOnesTheFirstSays() {
        Counted x = new Counted();
        x.climber(PLAIN, 9, 0, 0);
        for (int c = 1; c < 5; c++) {
            x.climber(PLAIN, 5, 5, 0);
        }
        due("1 to 4 are like ones", x.says(0), 1);
        x.rest(1, 1);
        due("2 to 4 are like ones", x.says(0), 2);
        Counted last = new Counted();
        for (int c = 0; c < 5; c++) {
            last.climber(PLAIN, 5 + c, 0, 0);
        }
        due("the last one hangs most", last.says(0), 4);
        Counted first = new Counted();
        for (int c = 0; c < 5; c++) {
            first.climber(PLAIN, 9 - c, 0, 0);
        }
        due("the first one hangs most", first.says(0), 0);
        Counted all = withClimbers(5);
        due("all are like ones", all.says(7), 0);
    }

    @Sentence(promise = 15, says = "on ICE the first of whom anything HANGS")
    static void onIceTheFirstOfWhomAnythingHangsSays() {
        Counted x = new Counted();
        x.climber(LEADER, 30, 9, 0);
        x.climber(LIGHT, 1, 0, 0);
        x.climber(PLAIN, 1, 0, 0);
        x.climber(PLAIN, 30, 9, 0);
        for (int p = 0; p < 8; p += 7) {
            due("says(" + p + ") without ICE", x.says(p), 3);
            x.ice(p, 1);
            due("says(" + p + "): of 2 hangs 1", x.says(p), 2);
        }
        due("says(6) without ICE", x.says(6), 3);
        x.rest(2, 1);
        due("says(0), where 2 RESTS", x.says(0), 3);
        x.sag(0, 1);
        due("says(0), where 0 SAGS", x.says(0), 0);
    }

    @Sentence(promise = 15, says = "nobody, if nothing does.")
    static void nobodySaysWhereNothingHangs() {
        Counted x = new Counted();
        asks(x, "says(0) without CLIMBERS", () -> x.says(0), -1);
        x.climber(PLAIN, 30, 9, 0);
        x.climber(LIGHT, 1, 0, 0);
        x.climber(LEADER, 30, 9, 0);
        x.climber(SHORT, 1, 0, 0);
        x.climber(FAT, 30, 9, 0);
        x.pitch(7, 9, 8, 8);
        x.ice(0, 1);
        x.rest(0, 1);
        due("says(7), where of 4 alone something hangs", x.says(7), 4);
        x.rest(4, 1);
        asks(x, "says(7), where nothing hangs", () -> x.says(7), -1);
        asks(x, "says(0), where nothing hangs, on ICE", () -> x.says(0), -1);
    }
}
