import java.math.BigInteger;

/** The sentences of 'stones' (promises 23 to 29) that name a boundary case, each with a test of its own. */
public final class StonesSentencesTest extends Sentences {
    public static void main(String[] args) throws Exception {
        run(StonesSentencesTest.class, 23, 29, args);
    }

    @Sentence(promise = {25, 26, 27, 29}, says = "======== 2 (Nothing is changed by these.)")
    static void questionsChangeNothing() {
        Counted x = new Counted();
        x.climber(PLAIN, 9, 1, 3);
        x.climber(GUIDE, 8, 0, 5);
        x.note(0, 0);
        x.note(7, -1);
        x.rest(0, 1);
        x.sag(1, 1);
        long digest = x.digest();
        for (int c = 0; c < 2; c++) {
            x.stones(c);
            x.is(c);
            x.look(c);
        }
        x.walls(7, 60, 8);
        due("digest()", x.digest(), digest);
        for (int what = 0; what < 3; what++) {
            due("status(" + what + ")", x.status(what), 0);
        }
    }

    // ---- 23, 24: note, forget

    @Sentence(promise = 23, says = "A NOTE: how many there are. BAD; FULL: 6.")
    static void aSeventhNoteIsFull() {
        Counted x = withClimbers(1);
        for (int i = 1; i <= 6; i++) {
            due("note " + i, x.note(0, 0), i);
        }
        full(x, "note 7", () -> x.note(0, 0));
        full(x, "note 7, of nobody", () -> x.note(7, -1));
        bad(x, "BAD ahead of FULL: the PITCH", () -> x.note(8, 0));
        bad(x, "BAD ahead of FULL: the CLIMBER", () -> x.note(0, 1));
        x.forget();
        due("note 1 behind forget()", x.note(0, 0), 1);
    }

    @Sentence(promise = {23, 35}, says = "NOTES 0 .. 5, as they come")
    static void notesAreAsTheyCome() {
        // The last thing folded but THE FRACTION is the last NOTE's CLIMBER, then 0 and 1.
        Counted x = withClimbers(2);
        Counted y = withClimbers(2);
        x.note(3, 0);
        x.note(4, 1);
        y.note(4, 1);
        y.note(3, 0);
        long apart = (3 * 31L + 0 - 4 * 31L - 1) * 31 * 31 + (4 * 31L + 1 - 3 * 31L - 0);
        due("digest() of two orders", x.digest() - y.digest(), apart * 31 * 31);
    }

    @Sentence(promise = 23, says = "at PITCH p (0 .. 7; nobody SAGS, RESTS as now) CLIMBER c said (-1: nobody).")
    static void aNoteIsOfAPitchAndAClimber() {
        Counted x = withClimbers(2);
        due("note(0, -1)", x.note(0, -1), 1);
        due("note(7, 1)", x.note(7, 1), 2);
        for (int w : new int[] {-1, 8, LOWEST, GREATEST}) {
            bad(x, "note(" + w + ", 0)", () -> x.note(w, 0));
        }
        for (int w : new int[] {-2, 2, LOWEST, GREATEST}) {
            bad(x, "note(0, " + w + ")", () -> x.note(0, w));
        }
        Counted none = new Counted();
        due("note(0, -1) without CLIMBERS", none.note(0, -1), 1);
        bad(none, "note(0, 0) without CLIMBERS", () -> none.note(0, 0));
        goTo(x, 8);
        due("note(0, 0) at THE TOP", x.note(0, 0), 3);
        bad(x, "note(8, 0) at THE TOP", () -> x.note(8, 0));
    }

    @Sentence(promise = {23, 25}, says = "nobody SAGS, RESTS as now")
    static void notesAreOfWhenNobodySags() {
        Counted x = new Counted();
        x.climber(PLAIN, 5, 0, 0);
        x.climber(GUIDE, 9, 0, 0);
        x.climber(PLAIN, 7, 0, 0);
        x.sag(1, 1);
        x.note(0, 0);
        due("stones(0): 5 and 4 are 9, were 1 to SAG none would be", x.stones(0), 1023 - 15);
        due("is(0): 0 hangs 5", x.is(0), 0);
        x.rest(1, 1);
        due("stones(0), where 1 RESTS: 5 and 2 are 7", x.stones(0), 1023 - 3);
        due("SAGS stays", x.of(1, 4), 1);
    }

    @Sentence(promise = 24, says = "No NOTES: how many there were.")
    static void forgetAnswersHowManyThereWere() {
        for (int n = 0; n <= 6; n++) {
            Counted x = withClimbers(1);
            for (int i = 0; i < n; i++) {
                x.note(0, -1);
            }
            due("forget() of " + n, x.forget(), n);
            due("count(4)", x.count(4), 0);
            due("stones(0)", x.stones(0), 1023);
            asks(x, "forget() again", x::forget, 0);
        }
    }

    // ---- 25: stones

    @Sentence(promise = 25, says = "STONES, as bits. BAD.")
    static void stonesIsOfThoseWhoAreThere() {
        Counted x = withClimbers(5);
        due("stones(0)", x.stones(0), 1023);
        due("stones(4)", x.stones(4), 1023);
        for (int w : new int[] {-1, 5, LOWEST, GREATEST}) {
            bad(x, "stones(" + w + ")", () -> x.stones(w));
        }
        Counted none = new Counted();
        bad(none, "stones(0) without CLIMBERS", () -> none.stones(0));
    }

    @Sentence(promise = 25, says = "STONES: of 0 to 9 that a CLIMBER may have (all others as they are)")
    static void stonesAre0To9() {
        // 0 says from a STONE on that makes 10 and it as much as the other's WEIGHT and STONE.
        for (int least = 0; least <= 9; least++) {
            Counted x = new Counted();
            x.climber(PLAIN, 10, 5, 0);
            x.climber(PLAIN, 10, least, 0);
            x.note(3, 0);
            due("stones(0) from " + least + " on", x.stones(0), 1023 - ((1 << least) - 1));
            x.forget();
            x.note(3, 1);
            due("stones(0) below " + least, x.stones(0), (1 << least) - 1);
            due("STONE stays", x.of(0, 2), 5);
        }
        Counted never = new Counted();
        never.climber(PLAIN, 10, 5, 0);
        never.climber(PLAIN, 20, 0, 0);
        never.note(3, 0);
        due("stones(0), where 10 would be wanted", never.stones(0), 0);
    }

    @Sentence(promise = 25, says = "so that all NOTES are so (bits).")
    static void stonesFitAllNotes() {
        Counted x = new Counted();
        x.climber(PLAIN, 10, 0, 0);
        x.climber(FAT, 10, 0, 0);
        for (int p = 0; p < 8; p++) {
            x.pitch(p, p, p + 1, p + 1);
        }
        // 0 says at PITCH p from STONE p on.
        x.note(2, 0);
        due("2 to 9", x.stones(0), 1023 - 3);
        x.note(7, 1);
        due("2 to 6", x.stones(0), 127 - 3);
        x.note(3, 0);
        x.note(6, 1);
        x.note(4, 0);
        due("4, 5", x.stones(0), 48);
        x.note(5, 1);
        due("4 alone, by all six", x.stones(0), 16);
        x.forget();
        x.note(5, 0);
        x.note(5, 1);
        due("NOTES that can't both be so", x.stones(0), 0);
    }

    // ---- 26: is

    @Sentence(promise = 26, says = "IS, as bits. BAD.")
    static void isIsOfThoseWhoAreThere() {
        Counted x = withClimbers(5);
        due("is(0) without NOTES", x.is(0), 63);
        due("is(4) without NOTES", x.is(4), 63);
        for (int w : new int[] {-1, 5, LOWEST, GREATEST}) {
            bad(x, "is(" + w + ")", () -> x.is(w));
        }
        Counted none = new Counted();
        bad(none, "is(0) without CLIMBERS", () -> none.is(0));
    }

    @Sentence(promise = 26, says = "IS: KINDS (bits) by which they are (its STONE as it is).")
    static void isHasItsStoneAsItIs() {
        Counted alone = new Counted();
        alone.climber(PLAIN, 1, 0, 0);
        alone.note(0, -1);
        due("is(0): LIGHT, SHORT, LEADER hang nothing", alone.is(0), 2 | 16 | 32);
        alone.forget();
        alone.note(0, 0);
        due("is(0): PLAIN, GUIDE, FAT", alone.is(0), 1 | 4 | 8);
        Counted x = new Counted();
        x.climber(PLAIN, 10, 0, 0);
        x.climber(PLAIN, 1, 9, 0);
        x.pitch(7, 1, 8, 8);
        x.note(7, 1);
        due("is(1), by its STONE 9: FAT alone is above 10", x.is(1), 8);
        x.forget();
        x.note(0, 0);
        due("is(1), by its STONE 9: any", x.is(1), 63);
        due("is(0), by STONE 0: PLAIN, GUIDE, FAT are 10", x.is(0), 1 | 4 | 8);
        due("KIND stays", x.of(1, 0), PLAIN);
        x.note(0, 1);
        due("is(1), by NOTES that can't both be so", x.is(1), 0);
    }

    // ---- 27: look

    @Sentence(promise = 27, says = "`int look(int climber)`: LOOK. NONE. BAD.")
    static void lookIsOfThoseWhoAreThere() {
        Counted x = withClimbers(5);
        due("look(0)", x.look(0), 0);
        due("look(4)", x.look(4), 0);
        for (int w : new int[] {-1, 5, LOWEST, GREATEST}) {
            bad(x, "look(" + w + ")", () -> x.look(w));
        }
        Counted none = new Counted();
        bad(none, "look(0) without CLIMBERS", () -> none.look(0));
    }

    @Sentence(promise = 27, says = "of like ones the first; none: no STONE.")
    static void lookIsNoneWithoutAStone() {
        Counted x = new Counted();
        x.climber(PLAIN, 1, 0, 0);
        x.note(0, -1);
        asks(x, "look(0), where no STONE fits", () -> x.look(0), -1);
        x.forget();
        due("look(0), where all are alike", x.look(0), 0);
        Counted ice = new Counted();
        ice.climber(PLAIN, 1, 0, 0);
        ice.climber(PLAIN, 30, 0, 0);
        ice.ice(0, 1);
        due("look(1): never at 0, at the others by any STONE", ice.look(1), 0);
        due("look(0): at 0 by any STONE, never at the others", ice.look(0), 0);
        Counted one = new Counted();
        one.climber(PLAIN, 10, 0, 0);
        one.climber(PLAIN, 11, 0, 0);
        one.climber(FAT, 1, 0, 0);
        one.note(4, 1);
        due("stones(0) is 0 alone", one.stones(0), 1);
        due("look(0), where one STONE is left", one.look(0), 0);
    }

    @Sentence(promise = 27, says = "LOOK: the PITCH by which, that CLIMBER saying there or not, "
        + "the greater part of STONES that it may have is least; of like ones the first;")
    static void lookPartsTheStones() {
        for (int best = 0; best < 8; best++) {
            Counted x = new Counted();
            x.climber(PLAIN, 5, 0, 0);
            x.climber(FAT, 5, 0, 0);
            // 0 says from a STONE as HARD on: at HARD 5 it parts them 5, 5; at 1 it parts them 9, 1.
            for (int p = 0; p < 8; p++) {
                x.pitch(p, p == best ? 5 : 1, p + 1, p + 1);
            }
            due("look(0), parted in halves at " + best, x.look(0), best);
            for (int p = best + 1; p < 8; p++) {
                x.pitch(p, 5, p + 1, p + 1);
            }
            due("look(0), like ones from " + best + " on", x.look(0), best);
        }
        Counted less = new Counted();
        less.climber(PLAIN, 5, 0, 0);
        less.climber(FAT, 5, 0, 0);
        less.pitch(0, 4, 1, 1);
        less.pitch(1, 5, 2, 2);
        less.pitch(2, 6, 3, 3);
        less.pitch(3, 1, 4, 4);
        less.pitch(4, 2, 5, 5);
        due("look(0): 6 and 4 is no better than 5 and 5", less.look(0), 1);
        less.note(0, 1);
        due("look(0) of STONES 0 to 3: 2 and 2 at HARD 2", less.look(0), 4);
        less.note(4, 1);
        due("look(0) of STONES 0, 1: 1 and 1 at HARD 1", less.look(0), 3);
    }

    // ---- 28: slips

    @Sentence(promise = 28, says = "SLIPS are THE FRACTION: 1. BAD; NO: at THE TOP.")
    static void slipsIsNotAtTheTop() {
        Counted x = withClimbers(5);
        goTo(x, 7);
        due("slips(0, 5) at 7", x.slips(0, 5), 1);
        fractionIs(x, "slips(0, 5) at 7", 1, 1);
        x.go();
        no(x, "slips(1, 5) at THE TOP", () -> x.slips(1, 5));
        bad(x, "BAD ahead of NO: the CLIMBER", () -> x.slips(5, 5));
        bad(x, "BAD ahead of NO: c", () -> x.slips(0, 11));
        fractionIs(x, "THE FRACTION stays", 1, 1);
        for (int w : new int[] {-1, 5, LOWEST, GREATEST}) {
            bad(x, "slips(" + w + ", 0)", () -> x.slips(w, 0));
        }
        Counted none = new Counted();
        bad(none, "slips(0, 0) without CLIMBERS", () -> none.slips(0, 0));
    }

    @Sentence(promise = 28, says = "SLIPS: by c of 10 (0 .. 10)")
    static void slipsIsBy0To10() {
        Counted x = withClimbers(1);
        x.rest(0, 1);
        int[][] want = {{0, 1}, {1, 10}, {1, 5}, {3, 10}, {2, 5}, {1, 2}, {3, 5}, {7, 10}, {4, 5}, {9, 10}, {1, 1}};
        for (int c = 0; c <= 10; c++) {
            due("slips(0, " + c + ")", x.slips(0, c), 1);
            fractionIs(x, "slips(0, " + c + ")", want[c][0], want[c][1]);
        }
        for (int w : new int[] {-1, 11, LOWEST, GREATEST}) {
            bad(x, "slips(0, " + w + ")", () -> x.slips(0, w));
        }
    }

    @Sentence(promise = 28, says = "each CLIMBER, apart, slips: does not REST: "
        + "the chance that a CLIMBER says here: THE FRACTION.")
    static void eachSlipsApart() {
        Counted x = new Counted();
        for (int c = 0; c < 5; c++) {
            x.climber(PLAIN, 9 - c, 0, 0);
            x.rest(c, 1);
        }
        long others = 1;
        for (int c = 0; c < 5; c++) {
            x.slips(c, 1);
            // It slips, and none ahead of it does: 1 by 10, 9 by 10 each.
            fractionIs(x, "slips(" + c + ", 1)", others, (long) Math.pow(10, c + 1));
            others *= 9;
        }
        due("who REST stays", x.count(3), 5);
        x.rest(0, 0);
        x.slips(0, 1);
        fractionIs(x, "one who does not REST", 1, 1);
        x.slips(4, 9);
        fractionIs(x, "behind one who does not REST", 0, 1);
        Counted guide = new Counted();
        guide.climber(GUIDE, 1, 0, 0);
        guide.climber(PLAIN, 5, 0, 0);
        guide.rest(0, 1);
        guide.rest(1, 1);
        guide.sag(0, 1);
        guide.slips(1, 3);
        fractionIs(guide, "SAGS as now: 5 and 5, the first says", 0, 1);
        guide.sag(0, 0);
        guide.slips(1, 3);
        fractionIs(guide, "1 slips: of like or not, it hangs most", 3, 10);
        guide.ice(1, 1);
        guide.go();
        guide.slips(1, 3);
        fractionIs(guide, "here, on ICE: 1 slips, 0 does not", 21, 100);
    }

    @Sentence(promise = {28, 30}, says = "THE FRACTION is 0 by 1 at first; lowest terms, below above 0.")
    static void theFractionIsInLowestTerms() {
        Counted x = withClimbers(2);
        x.rest(0, 1);
        x.rest(1, 1);
        x.slips(0, 5);
        fractionIs(x, "1 by 2", 1, 2);
        x.slips(1, 5);
        fractionIs(x, "25 by 100", 1, 4);
        x.slips(1, 8);
        fractionIs(x, "16 by 100", 4, 25);
        x.slips(1, 10);
        fractionIs(x, "0 by 100", 0, 1);
        x.slips(0, 10);
        fractionIs(x, "100 by 100", 1, 1);
        x.slips(0, 0);
        fractionIs(x, "0 by 100", 0, 1);
    }

    // ---- 29: walls

    @Sentence(promise = 29, says = "`int walls(int seed, int n, int p)`: WALLS. BAD.")
    static void wallsIsBad() {
        Counted x = withClimbers(1);
        for (int w : new int[] {-1, 1000000, LOWEST, GREATEST}) {
            bad(x, "walls(" + w + ", 1, 0)", () -> x.walls(w, 1, 0));
        }
        for (int w : new int[] {-1, 61, LOWEST, GREATEST}) {
            bad(x, "walls(0, " + w + ", 0)", () -> x.walls(0, w, 0));
        }
        for (int w : new int[] {-1, 9, LOWEST, GREATEST}) {
            bad(x, "walls(0, 1, " + w + ")", () -> x.walls(0, 1, w));
        }
    }

    @Sentence(promise = 29, says = "WALLS by a SEED (0 .. 999999), n (0 .. 60)")
    static void wallsIsOf0To60Times() {
        Counted x = withClimbers(1);
        for (int seed : new int[] {0, 999999}) {
            due("walls(" + seed + ", 0, 0)", x.walls(seed, 0, 0), 0);
            due("walls(" + seed + ", 1, 8)", x.walls(seed, 1, 8), 1);
            due("walls(" + seed + ", 60, 8)", x.walls(seed, 60, 8), 60);
            asks(x, "walls(" + seed + ", 60, 0)", () -> x.walls(seed, 60, 0), 60);
        }
    }

    @Sentence(promise = 29, says = "how often they come by a told PITCH (0 .. 8; this one, too).")
    static void wallsCountsThisPitchToo() {
        Counted x = new Counted();
        x.pitch(3, 0, 5, 4);
        goTo(x, 3);
        int[] want = {0, 0, 0, 7, 0, 7, 7, 7, 7};
        for (int p = 0; p <= 8; p++) {
            due("walls(1, 7, " + p + ") from 3", x.walls(1, 7, p), want[p]);
        }
        goTo(x, 8);
        due("walls(1, 7, 8) at THE TOP", x.walls(1, 7, 8), 7);
        due("walls(1, 7, 7) at THE TOP", x.walls(1, 7, 7), 0);
    }

    /** Five leaders: the first who sags says; RIGHT, if it is one of those told. From pitch 0. */
    private static int timesBy(int seed, int n, int told, int leaders, int wishing) {
        BigInteger x = BigInteger.valueOf(seed);
        int times = 0;
        for (int turn = 0; turn < n; turn++) {
            boolean came = told == 0;
            int at = 0;
            while (at < 8) {
                x = x.multiply(BigInteger.valueOf(1103515245)).add(BigInteger.valueOf(12345))
                    .mod(BigInteger.valueOf(2147483648L));
                int bits = x.divide(BigInteger.valueOf(65536)).mod(BigInteger.valueOf(32)).intValueExact() & leaders;
                int first = Integer.lowestOneBit(bits);
                at = (first & wishing) != 0 ? Math.min(8, at + 2) : at + 1;
                came |= at == told;
            }
            times += came ? 1 : 0;
        }
        return times;
    }

    private static Counted leaders(int n, int wishing) {
        Counted x = new Counted();
        for (int c = 0; c < n; c++) {
            x.climber(LEADER, 5, 0, (wishing >> c & 1) * 255);
        }
        for (int p = 0; p < 7; p++) {
            x.pitch(p, 0, p + 1, p + 2);
        }
        return x;
    }

    @Sentence(promise = 29, says = "X is SEED at first; each time they go from here to THE TOP, "
        + "at each PITCH X becomes X times 1103515245 and 12345, by 2147483648 what is left over; "
        + "X by 65536 (cut), by 32 left over")
    static void wallsGoesOnWithX() {
        Counted x = leaders(5, 21);
        for (int seed : new int[] {0, 1, 65535, 65536, 999999}) {
            for (int n : new int[] {1, 2, 59, 60}) {
                for (int p = 0; p <= 8; p++) {
                    due("walls(" + seed + ", " + n + ", " + p + ")", x.walls(seed, n, p), timesBy(seed, n, p, 31, 21));
                }
            }
        }
    }

    @Sentence(promise = 29, says = "(bits; of those that are there; nobody else)")
    static void wallsHasThoseThatAreThere() {
        for (int n = 1; n <= 4; n++) {
            Counted x = leaders(n, 1);
            for (int p = 0; p <= 8; p++) {
                due("walls(5, 60, " + p + ") of " + n, x.walls(5, 60, p), timesBy(5, 60, p, (1 << n) - 1, 1));
            }
            x.sag(0, 1);
            due("who SAGS now is nobody else", x.walls(5, 60, 1), timesBy(5, 60, 1, (1 << n) - 1, 1));
        }
        Counted none = leaders(0, 0);
        due("without CLIMBERS: LEFT", none.walls(5, 60, 1), 60);
    }
}
