/** The sentences of 'where they go' (promises 16 to 22) that name a boundary case, each with a test of its own. */
public final class WaysSentencesTest extends Sentences {
    public static void main(String[] args) throws Exception {
        run(WaysSentencesTest.class, 16, 22, args);
    }

    @Sentence(promise = {16, 17, 18, 19, 20, 21, 22}, says = "(Nothing is changed by these.)")
    static void questionsChangeNothing() {
        Counted x = new Counted();
        x.climber(PLAIN, 9, 1, 3);
        x.climber(GUIDE, 8, 0, 5);
        x.climber(LEADER, 7, 0, 255);
        x.pitch(0, 2, 1, 3);
        x.go();
        x.rest(0, 1);
        x.sag(2, 1);
        long digest = x.digest();
        for (int p = 0; p < 8; p++) {
            x.path(p - 1);
            x.by(p, 0);
            x.by(p, 1);
            x.canSay(p);
        }
        for (int c = 0; c < 3; c++) {
            x.mine(c);
            for (int i = -1; i < 3; i++) {
                x.tied(c, i);
            }
            x.rests(c, (c + 1) % 3);
        }
        for (int i = 0; i < 4; i++) {
            x.cut(i / 2, i % 2);
        }
        due("digest()", x.digest(), digest);
        for (int what = 0; what < 3; what++) {
            due("status(" + what + ")", x.status(what), 0);
        }
        due("undo() of SAG", x.undo(), 3);
        due("undo() of REST", x.undo(), 3);
        due("undo() of GOING", x.undo(), 0);
    }

    // ---- 16: path

    @Sentence(promise = 16, says = "PATH: how many (i = NONE; 0: at THE TOP), the i-th.")
    static void pathIsOf0To8() {
        Counted x = new Counted();
        for (int at = 0; at <= 8; at++) {
            due("path(-1) at " + at, x.path(-1), 8 - at);
            for (int i = 0; i < 8 - at; i++) {
                due("path(" + i + ") at " + at, x.path(i), at + 1 + i);
            }
            x.go();
        }
        Counted y = new Counted();
        y.pitch(0, 0, 8, 1);
        due("path(-1) of one alone", y.path(-1), 1);
        due("path(0) of one alone", y.path(0), 8);
    }

    @Sentence(promise = 16, says = "-5: not so many.")
    static void pathIsNotOfSoMany() {
        Counted x = new Counted();
        for (int at = 0; at <= 8; at++) {
            int behind = 8 - at;
            asks(x, "path(" + behind + ") at " + at, () -> x.path(behind), -5);
            asks(x, "path(greatest) at " + at, () -> x.path(GREATEST), -5);
            if (at < 8) {
                x.go();
            }
        }
    }

    @Sentence(promise = 16, says = "`int path(int i)`: PATH: how many (i = NONE; 0: at THE TOP), the i-th. "
        + "-5: not so many. BAD: -10.")
    static void pathIsBadBelowNone() {
        Counted x = withClimbers(1);
        for (int w : new int[] {-2, -3, -10, LOWEST}) {
            bad(x, -10, "path(" + w + ")", () -> x.path(w));
        }
        goTo(x, 8);
        bad(x, -10, "path(-2) at THE TOP", () -> x.path(-2));
    }

    @Sentence(promise = 16, says = "PATH: from the PITCH as it is, SAGS as now for this PITCH alone: "
        + "the i-th PITCH behind it, up to THE TOP; how many.")
    static void pathHasSagsForThisPitchAlone() {
        Counted x = new Counted();
        x.climber(PLAIN, 9, 0, 0);
        x.climber(LEADER, 9, 0, 255);
        for (int p = 0; p < 7; p++) {
            x.pitch(p, 0, p + 1, Math.min(8, p + 3));
        }
        due("path(0), where nobody SAGS", x.path(0), 1);
        x.sag(1, 1);
        due("path(0), where 1 SAGS", x.path(0), 3);
        due("path(1), where nobody SAGS any more", x.path(1), 4);
        due("path(-1)", x.path(-1), 6);
        x.go();
        due("path(0) from 3", x.path(0), 4);
        x.rest(0, 1);
        x.sag(1, 1);
        x.pitch(6, 0, 7, 8);
        due("path(0) from 3, where 1 SAGS", x.path(0), 6);
        due("path(1): nobody says there, so LEFT", x.path(1), 7);
        for (int c = 0; c < 5; c++) {
            Counted y = withLeaderAt(c);
            y.sag(c, 1);
            due("path(0), where " + c + " SAGS", y.path(0), 2);
            due("path(1), where " + c + " SAGS no more", y.path(1), 3);
        }
    }

    /** Five, one of them a leader who alone wishes to the right; LEFT is the next one, RIGHT the next but one. */
    private static Counted withLeaderAt(int c) {
        Counted x = withClimbers(c);
        x.climber(LEADER, 9, 0, 255);
        for (int i = c + 1; i < 5; i++) {
            x.climber(PLAIN, 1, 0, 0);
        }
        for (int p = 0; p < 7; p++) {
            x.pitch(p, 0, p + 1, p + 2);
        }
        return x;
    }

    // ---- 17: by

    @Sentence(promise = 17, says = "BY: how many SAGS (0), who SAGS here besides (1; bits). NONE. BAD.")
    static void byIsOfPitches0To8() {
        Counted x = withClimbers(2);
        due("by(0, 0)", x.by(0, 0), 0);
        due("by(8, 0)", x.by(8, 0), 0);
        due("by(8, 1)", x.by(8, 1), 0);
        for (int w : new int[] {-1, 9, LOWEST, GREATEST}) {
            bad(x, "by(" + w + ", 0)", () -> x.by(w, 0));
            bad(x, "by(" + w + ", 1)", () -> x.by(w, 1));
        }
        for (int w : new int[] {-1, 2, LOWEST, GREATEST}) {
            bad(x, "by(0, " + w + ")", () -> x.by(0, w));
        }
        goTo(x, 8);
        bad(x, "by(9, 0) at THE TOP", () -> x.by(9, 0));
    }

    @Sentence(promise = 17, says = "(that where they are: 0, nobody)")
    static void byThePitchWhereTheyAre() {
        Counted x = withClimbers(2);
        for (int at = 0; at <= 8; at++) {
            x.sag(0, 1);
            due("by(" + at + ", 0)", x.by(at, 0), 0);
            due("by(" + at + ", 1)", x.by(at, 1), 0);
            x.go();
        }
    }

    @Sentence(promise = 17, says = "(of like ones the least bits); none.")
    static void byIsNoneWhereNoWayLeads() {
        Counted x = new Counted();
        x.climber(PLAIN, 30, 9, 0);
        x.climber(LEADER, 1, 0, 255);
        x.pitch(0, 0, 2, 1);
        asks(x, "by(1, 0), where 1 can't say", () -> x.by(1, 0), -1);
        asks(x, "by(1, 1), where 1 can't say", () -> x.by(1, 1), -1);
        x.pitch(0, 0, 8, 8);
        for (int p = 1; p < 8; p++) {
            due("by(" + p + ", 0), where no way leads", x.by(p, 0), -1);
        }
        x.pitch(0, 0, 3, 3);
        x.go();
        for (int p = 0; p < 3; p++) {
            int below = p;
            asks(x, "by(" + p + ", 0) from 3", () -> x.by(below, 0), -1);
            asks(x, "by(" + p + ", 1) from 3", () -> x.by(below, 1), -1);
        }
        goTo(x, 8);
        asks(x, "by(7, 0) at THE TOP", () -> x.by(7, 0), -1);
        Counted none = new Counted();
        none.pitch(0, 0, 2, 1);
        asks(none, "by(1, 0) without CLIMBERS", () -> none.by(1, 0), -1);
        due("by(2, 0) without CLIMBERS", none.by(2, 0), 0);
    }

    @Sentence(promise = 17, says = "each is one CLIMBER who SAGS at one PITCH on the way")
    static void bySagsAreOfOneClimberAtOnePitch() {
        for (int c = 0; c < 5; c++) {
            Counted x = withLeaderAt(c);
            x.pitch(0, 0, 1, 3);
            x.pitch(1, 0, 2, 4);
            x.pitch(2, 0, 8, 5);
            due("by(3, 0): " + c + " SAGS here", x.by(3, 0), 1);
            due("by(3, 1): " + c + " SAGS here", x.by(3, 1), 1 << c);
            due("by(5, 0): " + c + " SAGS at 2", x.by(5, 0), 1);
            due("by(5, 1): nobody SAGS here", x.by(5, 1), 0);
            due("by(7, 0): " + c + " SAGS once on the way", x.by(7, 0), 1);
            x.sag(c, 1);
            due("by(3, 0), where " + c + " SAGS now", x.by(3, 0), 0);
            asks(x, "by(2, 0), where " + c + " SAGS now", () -> x.by(2, 0), -1);
        }
    }

    @Sentence(promise = 17, says = "BY: the fewest SAGS by which they come by a told PITCH")
    static void byIsTheFewestSags() {
        Counted x = new Counted();
        x.climber(PLAIN, 9, 0, 0);
        x.climber(LEADER, 9, 0, 255);
        for (int p = 0; p < 7; p++) {
            x.pitch(p, 0, 8, p + 1);
        }
        for (int p = 1; p < 8; p++) {
            due("by(" + p + ", 0): 1 SAGS at each PITCH on the way", x.by(p, 0), p);
            due("by(" + p + ", 1)", x.by(p, 1), 2);
        }
        due("by(8, 0)", x.by(8, 0), 0);
        due("by(8, 1)", x.by(8, 1), 0);
        x.pitch(0, 0, 6, 1);
        due("by(7, 0) by a way of fewer SAGS", x.by(7, 0), 1);
        due("by(7, 1) by a way of fewer SAGS", x.by(7, 1), 0);
    }

    @Sentence(promise = 17, says = "(those who SAG now do so at this PITCH and are not counted)")
    static void byDoesNotCountThoseWhoSagNow() {
        Counted x = new Counted();
        x.climber(PLAIN, 9, 0, 0);
        x.climber(LEADER, 9, 0, 255);
        x.climber(LEADER, 20, 0, 0);
        x.pitch(0, 0, 2, 1);
        x.pitch(1, 0, 4, 3);
        due("by(1, 0), where nobody SAGS now", x.by(1, 0), 1);
        x.sag(1, 1);
        due("by(1, 0), where 1 SAGS now", x.by(1, 0), 0);
        due("by(1, 1), where 1 SAGS now", x.by(1, 1), 0);
        due("by(3, 0): 1 SAGS anew at 1", x.by(3, 0), 1);
        due("by(3, 1)", x.by(3, 1), 0);
        due("by(2, 0): 2 SAGS besides", x.by(2, 0), 1);
        due("by(2, 1)", x.by(2, 1), 4);
        x.sag(2, 1);
        asks(x, "by(1, 0): 2 SAGS now in any case", () -> x.by(1, 0), -1);
        due("by(2, 0)", x.by(2, 0), 0);
    }

    @Sentence(promise = 17, says = "of like ones the least bits")
    static void byIsOfTheLeastBits() {
        for (int first = 0; first < 5; first++) {
            Counted x = withClimbers(first);
            for (int c = first; c < 5; c++) {
                x.climber(LEADER, 30, 0, 1);
            }
            x.pitch(0, 0, 2, 1);
            due("by(1, 0)", x.by(1, 0), 1);
            due("by(1, 1) of LEADERS from " + first + " on", x.by(1, 1), 1 << first);
        }
        // RIGHT here, or LEFT here and RIGHT at 1: one SAG each, the least bits where it comes later.
        Counted later = new Counted();
        later.climber(PLAIN, 9, 0, 0);
        later.climber(LEADER, 9, 0, 3);
        later.pitch(0, 0, 1, 2);
        later.pitch(1, 0, 3, 2);
        due("by(2, 0)", later.by(2, 0), 1);
        due("by(2, 1)", later.by(2, 1), 0);
    }

    // ---- 18, 19: canSay, mine

    @Sentence(promise = 18, says = "CAN SAY, as bits. BAD.")
    static void canSayAtPitches0To7() {
        Counted x = withClimbers(2);
        due("canSay(0)", x.canSay(0), 1);
        due("canSay(7)", x.canSay(7), 1);
        for (int w : new int[] {-1, 8, LOWEST, GREATEST}) {
            bad(x, "canSay(" + w + ")", () -> x.canSay(w));
        }
        goTo(x, 8);
        due("canSay(7) at THE TOP", x.canSay(7), 1);
    }

    @Sentence(promise = 18, says = "CAN SAY at a PITCH: CLIMBERS (bits) each of whom says there "
        + "by some set of all who SAG (RESTS as now).")
    static void canSayByAnySetOfAll() {
        due("without CLIMBERS", new Counted().canSay(0), 0);
        Counted all = new Counted();
        for (int c = 0; c < 5; c++) {
            all.climber(LEADER, 1 + c, 0, 0);
        }
        due("each, where it alone SAGS", all.canSay(0), 31);
        all.ice(0, 1);
        due("each, where it alone SAGS, on ICE", all.canSay(0), 31);
        Counted x = new Counted();
        x.climber(PLAIN, 9, 0, 0);
        x.climber(GUIDE, 5, 0, 0);
        x.climber(GUIDE, 4, 0, 0);
        due("0, where nobody SAGS; 10 above 9; 9 is not above 9", x.canSay(0), 3);
        x.sag(1, 1);
        due("whoever SAGS now", x.canSay(0), 3);
        x.rest(0, 1);
        due("0 RESTS; 2 says, where it alone SAGS", x.canSay(0), 6);
        x.rest(1, 1);
        x.rest(2, 1);
        due("they REST and SAG", x.canSay(0), 6);
        Counted nobody = new Counted();
        nobody.climber(LIGHT, 1, 0, 0);
        due("of whom nothing hangs", nobody.canSay(0), 0);
    }

    @Sentence(promise = 19, says = "MINE, as bits. BAD.")
    static void mineIsOfThoseWhoAreThere() {
        Counted x = withClimbers(5);
        due("mine(0)", x.mine(0), 0);
        due("mine(4)", x.mine(4), 255);
        for (int w : new int[] {-1, 5, LOWEST, GREATEST}) {
            bad(x, "mine(" + w + ")", () -> x.mine(w));
        }
        Counted none = new Counted();
        bad(none, "mine(0) without CLIMBERS", () -> none.mine(0));
    }

    @Sentence(promise = 19, says = "MINE: PITCHES (bits) at which a CLIMBER can not say, whoever SAGS.")
    static void mineIsOfPitches0To7() {
        for (int p = 0; p < 8; p++) {
            Counted x = new Counted();
            x.climber(PLAIN, 1, 0, 0);
            x.climber(PLAIN, 2, 0, 0);
            x.ice(p, 1);
            due("mine(0), ICE at " + p, x.mine(0), 255 - (1 << p));
            due("mine(1), ICE at " + p, x.mine(1), 1 << p);
        }
        Counted y = new Counted();
        y.climber(PLAIN, 9, 0, 0);
        y.climber(LEADER, 5, 0, 0);
        y.climber(LEADER, 4, 0, 0);
        due("mine(1): 10 above 9", y.mine(1), 0);
        due("mine(2): 9 and 9", y.mine(2), 255);
        y.sag(1, 1);
        due("mine(0), whoever SAGS now", y.mine(0), 0);
        y.rest(0, 1);
        due("mine(0), who RESTS", y.mine(0), 255);
    }

    // ---- 20: tied

    @Sentence(promise = 20, says = "TIED: at how many (i = NONE), the i-th. -5: not so many. BAD: -10.")
    static void tiedIsOfThoseWhoAreThere() {
        for (int n = 1; n <= 5; n++) {
            Counted x = withClimbers(n);
            int behind = n;
            due("tied(0, -1) of " + n, x.tied(0, -1), 8);
            due("tied(0, " + (n - 1) + ") of " + n, x.tied(0, n - 1), n - 1);
            asks(x, "tied(0, " + n + ") of " + n, () -> x.tied(0, behind), -5);
            asks(x, "tied(0, greatest) of " + n, () -> x.tied(0, GREATEST), -5);
            for (int w : new int[] {-2, -10, LOWEST}) {
                bad(x, -10, "tied(0, " + w + ")", () -> x.tied(0, w));
            }
            for (int w : new int[] {-1, behind, LOWEST, GREATEST}) {
                bad(x, -10, "tied(" + w + ", -1)", () -> x.tied(w, -1));
                bad(x, -10, "BAD ahead of -5: tied(" + w + ", 9)", () -> x.tied(w, 9));
            }
        }
        Counted none = new Counted();
        bad(none, -10, "tied(0, -1) without CLIMBERS", () -> none.tied(0, -1));
    }

    private static void orderIs(Counted x, int climber, int most, int... order) {
        due("tied(" + climber + ", -1)", x.tied(climber, -1), most);
        for (int i = 0; i < order.length; i++) {
            due("tied(" + climber + ", " + i + ")", x.tied(climber, i), order[i]);
        }
    }

    @Sentence(promise = 20, says = "by which a CLIMBER says at most of PITCHES 0 .. 7: at how many;")
    static void tiedIsOf0To8Pitches() {
        Counted x = new Counted();
        x.climber(LEADER, 30, 9, 0);
        x.climber(PLAIN, 2, 0, 0);
        x.climber(PLAIN, 1, 0, 0);
        orderIs(x, 0, 0, 0, 1, 2);
        orderIs(x, 1, 8, 0, 1, 2);
        orderIs(x, 2, 0, 0, 1, 2);
        x.ice(7, 1);
        orderIs(x, 2, 1, 0, 2, 1);
        x.ice(0, 1);
        orderIs(x, 2, 2, 0, 2, 1);
        goTo(x, 8);
        orderIs(x, 2, 2, 0, 2, 1);
        // The first order has 7 of them; all 8 come with a later one.
        Counted later = new Counted();
        later.climber(PLAIN, 1, 0, 0);
        later.climber(PLAIN, 2, 0, 0);
        later.ice(7, 1);
        orderIs(later, 1, 8, 1, 0);
        orderIs(later, 0, 1, 0, 1);
    }

    @Sentence(promise = 20, says = "the i-th one in the first such order (rising, by numbers as now).")
    static void tiedIsTheFirstSuchOrder() {
        // Each but the last place of 0 and the first of 4 gives somebody else 9 or more: the last order of all.
        Counted last = new Counted();
        for (int weight : new int[] {2, 2, 6, 10, 14}) {
            last.climber(SHORT, weight, 0, 0);
        }
        orderIs(last, 0, 8, 4, 3, 2, 1, 0);
        Counted first = withClimbers(5);
        orderIs(first, 0, 8, 0, 1, 2, 3, 4);
        orderIs(first, 1, 8, 1, 0, 2, 3, 4);
        orderIs(first, 4, 8, 4, 0, 1, 2, 3);
    }

    @Sentence(promise = 20, says = "(nobody SAGS; RESTS as now; places, the first one by the new order)")
    static void tiedHasPlacesByTheNewOrder() {
        Counted x = new Counted();
        x.climber(PLAIN, 9, 0, 0);
        x.climber(GUIDE, 9, 0, 0);
        x.climber(SHORT, 12, 0, 0);
        x.sag(1, 1);
        // SHORT hangs 6 and twice its place: 10 at place 2, above 9.
        orderIs(x, 0, 8, 0, 2, 1);
        // Of 0 and 1, like ones, the first by the new order says.
        orderIs(x, 1, 8, 1, 2, 0);
        orderIs(x, 2, 8, 0, 1, 2);
        x.rest(0, 1);
        orderIs(x, 0, 0, 0, 1, 2);
        orderIs(x, 1, 8, 0, 2, 1);
        due("who SAGS stays", x.of(1, 4), 1);
    }

    // ---- 21: cut

    @Sentence(promise = 21,
        says = "CUT: on the first (0), the second (1). NONE. BAD: -10: the last one, too; NO: at THE TOP.")
    static void cutIsBehindAllButTheLast() {
        for (int n = 2; n <= 5; n++) {
            Counted x = withClimbers(n);
            int last = n - 1;
            due("cut(0, 0) of " + n, x.cut(0, 0), 0);
            due("cut(0, 1) of " + n, x.cut(0, 1), 1);
            due("cut(" + (n - 2) + ", 0) of " + n, x.cut(n - 2, 0), 0);
            due("cut(" + (n - 2) + ", 1) of " + n, x.cut(n - 2, 1), last);
            for (int w : new int[] {-1, last, n, LOWEST, GREATEST}) {
                bad(x, -10, "cut(" + w + ", 0) of " + n, () -> x.cut(w, 0));
                bad(x, -10, "cut(" + w + ", 1) of " + n, () -> x.cut(w, 1));
            }
            for (int w : new int[] {-1, 2, LOWEST, GREATEST}) {
                bad(x, -10, "cut(0, " + w + ") of " + n, () -> x.cut(0, w));
            }
        }
        Counted one = withClimbers(1);
        bad(one, -10, "cut(0, 0) of one", () -> one.cut(0, 0));
        Counted none = new Counted();
        bad(none, -10, "cut(0, 0) of none", () -> none.cut(0, 0));
        bad(none, -10, "cut(-1, 0) of none", () -> none.cut(-1, 0));
    }

    @Sentence(promise = 21, says = "the last one, too; NO: at THE TOP.")
    static void cutIsNotAtTheTop() {
        Counted x = withClimbers(2);
        goTo(x, 7);
        due("cut(0, 1) at 7", x.cut(0, 1), 1);
        x.go();
        no(x, "cut(0, 0) at THE TOP", () -> x.cut(0, 0));
        no(x, "cut(0, 1) at THE TOP", () -> x.cut(0, 1));
        bad(x, -10, "BAD ahead of NO: the last one", () -> x.cut(1, 0));
        bad(x, -10, "BAD ahead of NO: what", () -> x.cut(0, 2));
    }

    @Sentence(promise = 21, says = "(by itself tied from place 0 on; as numbers now) at this PITCH; none: nobody.")
    static void cutRopesAreTiedFromPlace0On() {
        Counted x = new Counted();
        x.climber(PLAIN, 9, 0, 0);
        x.climber(SHORT, 16, 0, 0);
        x.climber(PLAIN, 9, 0, 0);
        x.climber(FAT, 1, 0, 0);
        due("cut(1, 0): SHORT hangs 8 and 2", x.cut(1, 0), 1);
        due("cut(0, 1): SHORT hangs 8", x.cut(0, 1), 2);
        due("cut(2, 1)", x.cut(2, 1), 3);
        x.pitch(1, 9, 2, 2);
        x.go();
        due("cut(0, 1) at this PITCH: FAT hangs 10", x.cut(0, 1), 3);
        x.ice(1, 1);
        due("cut(0, 1) on ICE", x.cut(0, 1), 1);
        x.rest(0, 1);
        asks(x, "cut(0, 0), where nobody says", () -> x.cut(0, 0), -1);
        due("cut(1, 0), where 0 RESTS", x.cut(1, 0), 1);
        x.rest(3, 1);
        asks(x, "cut(2, 1), where nobody says", () -> x.cut(2, 1), -1);
    }

    // ---- 22: rests

    @Sentence(promise = 22, says = "RESTS, as bits. BAD: alike, too; NO: at THE TOP.")
    static void restsIsOfTwoUnlikeClimbers() {
        Counted x = withClimbers(5);
        due("rests(0, 4)", x.rests(0, 4), 15);
        due("rests(4, 0)", x.rests(4, 0), 15);
        for (int w : new int[] {-1, 5, LOWEST, GREATEST}) {
            bad(x, "rests(" + w + ", 0)", () -> x.rests(w, 0));
            bad(x, "rests(0, " + w + ")", () -> x.rests(0, w));
        }
        for (int c = 0; c < 5; c++) {
            int alike = c;
            bad(x, "rests(" + c + ", " + c + ")", () -> x.rests(alike, alike));
        }
        Counted none = new Counted();
        bad(none, "rests(0, 1) without CLIMBERS", () -> none.rests(0, 1));
        Counted one = withClimbers(1);
        bad(one, "rests(0, 1) of one", () -> one.rests(0, 1));
    }

    @Sentence(promise = 22, says = "alike, too; NO: at THE TOP.")
    static void restsIsNotAtTheTop() {
        Counted x = withClimbers(2);
        goTo(x, 7);
        due("rests(0, 1) at 7", x.rests(0, 1), 15);
        x.go();
        no(x, "rests(0, 1) at THE TOP", () -> x.rests(0, 1));
        bad(x, "BAD ahead of NO: alike", () -> x.rests(0, 0));
        bad(x, "BAD ahead of NO", () -> x.rests(0, 2));
    }

    @Sentence(promise = 22,
        says = "two unlike CLIMBERS a, b each may SAG or not (instead of as now; all others as now)")
    static void restsHasAllOthersAsNow() {
        Counted x = new Counted();
        x.climber(LEADER, 5, 0, 0);
        x.climber(LEADER, 5, 0, 0);
        x.climber(LEADER, 6, 0, 0);
        due("each by itself, of like ones the first", x.rests(0, 1), 2 | 8);
        x.sag(0, 1);
        x.sag(1, 1);
        due("instead of as now", x.rests(0, 1), 2 | 8);
        due("rests(1, 0)", x.rests(1, 0), 4 | 8);
        x.sag(2, 1);
        due("2 SAGS as now and says in any case", x.rests(0, 1), 15);
        x.rest(2, 1);
        due("2 SAGS and RESTS as now", x.rests(0, 1), 2 | 8);
        due("who SAG stays", x.count(2), 3);
    }

    @Sentence(promise = 22,
        says = "(bits: 0 none SAGS, 1 a, 2 b, 3 both; neither would get more by doing otherwise)")
    static void restsIsWhereNeitherWouldGetMore() {
        Counted x = new Counted();
        x.climber(PLAIN, 9, 0, 0);
        x.climber(GUIDE, 5, 0, 0);
        x.climber(GUIDE, 4, 0, 0);
        due("1 says, if it SAGS, else 0 (a alone can)", x.rests(1, 0), 2 | 8);
        due("1 says, if it SAGS, else 0 (b alone can)", x.rests(0, 1), 4 | 8);
        due("2 can't say", x.rests(0, 2), 15);
        due("at this PITCH", x.rests(2, 0), 15);
        x.pitch(0, 0, 1, 1);
        x.ice(1, 1);
        x.go();
        due("at this PITCH, on ICE: 0 says in any case", x.rests(1, 0), 15);
    }
}
