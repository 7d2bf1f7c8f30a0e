import java.util.function.LongSupplier;

/** The sentences of 'a wall' (promises 1 to 8) that name a boundary case, each with a test of its own. */
public final class WallSentencesTest extends Sentences {
    /** Five of these are 70 bytes; with 'wall;' ahead, the sixth begins at 75. */
    private static final String ONE = "climber 0 1 0;";

    public static void main(String[] args) throws Exception {
        run(WallSentencesTest.class, 1, 8, args);
    }

    // ---- 1: a new object

    @Sentence(promise = 1, says = "`RopeLaw()`: As told; no CLIMBERS.")
    static void aNewObjectHasNoClimbers() {
        Counted x = new Counted();
        due("count(0)", x.count(0), 0);
        bad(x, "of(0, 0)", () -> x.of(0, 0));
        due("the first one's number", x.climber(PLAIN, 1, 0, 0), 0);
    }

    @Sentence(promise = 1, says = "public static final int NONE = -1, BAD = -2, NO = -3, FULL = -4;")
    static void constants() {
        due("NONE", RopeLaw.NONE, -1);
        due("BAD", RopeLaw.BAD, -2);
        due("NO", RopeLaw.NO, -3);
        due("FULL", RopeLaw.FULL, -4);
    }

    @Sentence(promise = 1, says = "An object is used for at most 512 calls after it has been made")
    static void the512thCallIsAnswered() {
        Counted x = new Counted();
        for (int i = 1; i < Counted.MOST; i++) {
            due("call " + i, x.ice(8, 0), -2);
        }
        due("the 512th call", x.status(0), 511);
        due("calls that are left", x.left(), 0);
    }

    @Sentence(promise = 1, says = "They are at a PITCH (0 at first).")
    static void atPitch0AtFirst() {
        Counted x = new Counted();
        due("count(1)", x.count(1), 0);
        due("go()", x.go(), 1);
    }

    @Sentence(promise = 1, says = "ICE (1, 0; 0 at first)")
    static void noIceAtFirst() {
        Counted x = new Counted();
        for (int p = 0; p < 8; p++) {
            due("ice(" + p + ", 1)", x.ice(p, 1), 0);
        }
    }

    @Sentence(promise = 1, says = "HARD (0 .. 9; 0 at first)")
    static void notHardAtFirst() {
        Counted x = new Counted();
        for (int p = 0; p < 8; p++) {
            due("pitch(" + p + ", 9, 8, 8)", x.pitch(p, 9, 8, 8), 0);
        }
    }

    @Sentence(promise = 1, says = "the next one at first, both")
    static void leftAndRightAreTheNextAtFirst() {
        for (int wishes = 0; wishes <= 255; wishes += 255) {
            Counted x = new Counted();
            x.climber(PLAIN, 1, 0, wishes);
            for (int p = 0; p < 8; p++) {
                due("go() from " + p + ", WISHES " + wishes, x.go(), p + 1);
            }
        }
    }

    @Sentence(promise = {1, 30}, says = "THE FRACTION is 0 by 1 at first")
    static void theFractionAtFirst() {
        fractionIs(new Counted(), "at first", 0, 1);
    }

    // ---- 2: wall

    @Sentence(promise = 2, says = "`int wall()`: All as at first")
    static void wallMakesAllAsAtFirst() {
        long atFirst = new Counted().digest();
        Counted x = withClimbers(5);
        for (int p = 0; p < 8; p++) {
            x.pitch(p, 9, 8, 8);
            x.ice(p, 1);
        }
        for (int c = 0; c < 5; c++) {
            x.sag(c, 1);
            x.rest(c, 1);
        }
        for (int i = 0; i < 6; i++) {
            x.note(7, -1);
        }
        x.go();
        x.sag(0, 1);
        x.wall();
        due("digest()", x.digest(), atFirst);
        no(x, "undo()", x::undo);
        x.climber(PLAIN, 1, 0, 0);
        due("one that comes then does not SAG", x.of(0, 4), 0);
        due("one that comes then does not REST", x.of(0, 5), 0);
        due("NOTES", x.note(0, 0), 1);
    }

    @Sentence(promise = 2, says = "(but for IMAGES, THE TEXT, THE FRACTION, STATUS): how many CLIMBERS there were.")
    static void wallLeavesImagesTextFractionStatus() {
        Counted x = withClimbers(2);
        x.image(0);
        x.climber(PLAIN, 1, 0, 0);
        x.image(1);
        x.rest(0, 1);
        x.rest(1, 1);
        x.rest(2, 1);
        x.slips(0, 3);
        type(x, "wall;ice 5;");
        x.ice(8, 0);
        x.from(-1);
        goTo(x, 8);
        x.go();
        x.climber(PLAIN, 1, 0, 0);
        x.climber(PLAIN, 1, 0, 0);
        x.climber(PLAIN, 1, 0, 0);
        x.wall();
        fractionIs(x, "THE FRACTION", 3, 10);
        due("STATUS of BAD", x.status(0), 2);
        due("STATUS of NO", x.status(1), 1);
        due("STATUS of FULL", x.status(2), 1);
        due("bytes of THE TEXT", x.count(6), 11);
        due("THE TEXT", x.read(), 2);
        due("ICE told by THE TEXT", x.ice(5, 0), 1);
        x.wall();
        due("IMAGE 0", x.from(0), 1);
        due("CLIMBERS of IMAGE 0", x.count(0), 2);
        x.wall();
        due("IMAGE 1", x.from(1), 1);
        due("CLIMBERS of IMAGE 1", x.count(0), 3);
    }

    @Sentence(promise = 2, says = "how many CLIMBERS there were.")
    static void wallAnswersHowManyThereWere() {
        for (int n = 0; n <= 5; n++) {
            Counted x = withClimbers(n);
            due("wall() of " + n, x.wall(), n);
            due("wall() again", x.wall(), 0);
        }
    }

    // ---- 3: pitch

    @Sentence(promise = {3, 11}, says = "7 (PITCH 8 is THE TOP)")
    static void pitchesAre0To7() {
        Counted x = new Counted();
        due("pitch(0, 0, 1, 1)", x.pitch(0, 0, 1, 1), 0);
        due("pitch(7, 0, 8, 8)", x.pitch(7, 0, 8, 8), 0);
        bad(x, "pitch(-1, 0, 1, 1)", () -> x.pitch(-1, 0, 1, 1));
        bad(x, "pitch(-1, 0, 0, 0)", () -> x.pitch(-1, 0, 0, 0));
        bad(x, "pitch(8, 0, 8, 8)", () -> x.pitch(8, 0, 8, 8));
        bad(x, "pitch(8, 0, 9, 9)", () -> x.pitch(8, 0, 9, 9));
        bad(x, "pitch(lowest, 0, 1, 1)", () -> x.pitch(LOWEST, 0, 1, 1));
        // The one behind the greatest number is the lowest, by the wrap-around.
        bad(x, "pitch(greatest, 0, lowest, lowest)", () -> x.pitch(GREATEST, 0, LOWEST, LOWEST));
        bad(x, "pitch(greatest, 0, 8, 8)", () -> x.pitch(GREATEST, 0, 8, 8));
    }

    @Sentence(promise = 3, says = "HARD (0 .. 9;")
    static void hardIs0To9() {
        Counted x = new Counted();
        due("pitch(0, 9, 1, 1)", x.pitch(0, 9, 1, 1), 0);
        due("pitch(0, 0, 1, 1)", x.pitch(0, 0, 1, 1), 9);
        bad(x, "pitch(0, -1, 1, 1)", () -> x.pitch(0, -1, 1, 1));
        bad(x, "pitch(0, 10, 1, 1)", () -> x.pitch(0, 10, 1, 1));
        bad(x, "pitch(0, lowest, 1, 1)", () -> x.pitch(0, LOWEST, 1, 1));
        bad(x, "pitch(0, greatest, 1, 1)", () -> x.pitch(0, GREATEST, 1, 1));
        due("pitch(0, 0, 1, 1)", x.pitch(0, 0, 1, 1), 0);
    }

    @Sentence(promise = 3, says = "the PITCH to the LEFT, to the RIGHT of it (each of a greater number, 8 at most;")
    static void waysLeadToAGreaterNumber8AtMost() {
        for (int p = 0; p < 8; p++) {
            Counted x = new Counted();
            int at = p;
            due("the next one, 8", x.pitch(at, 1, at + 1, 8), 0);
            due("8, the next one", x.pitch(at, 2, 8, at + 1), 1);
            for (int w : new int[] {at, at - 1, 9, LOWEST, GREATEST}) {
                bad(x, "LEFT of " + at + " is " + w, () -> x.pitch(at, 0, w, 8));
                bad(x, "RIGHT of " + at + " is " + w, () -> x.pitch(at, 0, 8, w));
            }
            due("HARD stays", x.pitch(at, 0, 8, 8), 2);
        }
    }

    @Sentence(promise = 3, says = "A PITCH: how HARD it was. BAD.")
    static void pitchAnswersHowHardItWas() {
        Counted x = new Counted();
        for (int hard = 0; hard <= 9; hard++) {
            due("pitch(3, " + hard + ", 4, 5)", x.pitch(3, hard, 4, 5), Math.max(0, hard - 1));
        }
        due("of another PITCH", x.pitch(4, 1, 5, 6), 0);
        x.ice(3, 1);
        x.pitch(3, 0, 8, 8);
        due("ICE stays", x.ice(3, 0), 1);
    }

    // ---- 4: ice

    @Sentence(promise = 4, says = "ICE at a PITCH (1, 0): what it was. BAD.")
    static void iceIs1Or0() {
        Counted x = new Counted();
        for (int p = 0; p < 8; p += 7) {
            due("ice(" + p + ", 1)", x.ice(p, 1), 0);
            due("ice(" + p + ", 1)", x.ice(p, 1), 1);
            due("ice(" + p + ", 0)", x.ice(p, 0), 1);
            due("ice(" + p + ", 0)", x.ice(p, 0), 0);
        }
        for (int w : new int[] {-1, 8, LOWEST, GREATEST}) {
            bad(x, "ice(" + w + ", 1)", () -> x.ice(w, 1));
        }
        for (int w : new int[] {-1, 2, LOWEST, GREATEST}) {
            bad(x, "ice(0, " + w + ")", () -> x.ice(0, w));
        }
    }

    // ---- 5: climber

    @Sentence(promise = 5, says = "CLIMBERS 0 .. 4, tied one behind the other as they come")
    static void climbersAre0To4AsTheyCome() {
        Counted x = new Counted();
        for (int c = 0; c < 5; c++) {
            due("climber", x.climber(SHORT, 2 + c, 0, c), c);
        }
        for (int c = 0; c < 5; c++) {
            due("WISHES of " + c, x.of(c, 3), c);
            due("place of " + c, x.hangs(c, 0), (2 + c) / 2 + 2 * c);
        }
    }

    @Sentence(promise = 5, says = "KINDS, each under the one told")
    static void kindsAre0To5() {
        Counted x = new Counted();
        due("climber(0, 1, 0, 0)", x.climber(0, 1, 0, 0), 0);
        due("climber(5, 1, 0, 0)", x.climber(5, 1, 0, 0), 1);
        for (int w : new int[] {-1, 6, LOWEST, GREATEST}) {
            bad(x, "climber(" + w + ", 1, 0, 0)", () -> x.climber(w, 1, 0, 0));
        }
    }

    @Sentence(promise = 5, says = "a WEIGHT (1 .. 30)")
    static void weightIs1To30() {
        Counted x = new Counted();
        due("climber(0, 1, 0, 0)", x.climber(0, 1, 0, 0), 0);
        due("climber(0, 30, 0, 0)", x.climber(0, 30, 0, 0), 1);
        due("of(1, 1)", x.of(1, 1), 30);
        for (int w : new int[] {0, -1, 31, LOWEST, GREATEST}) {
            bad(x, "climber(0, " + w + ", 0, 0)", () -> x.climber(0, w, 0, 0));
        }
    }

    @Sentence(promise = 5, says = "a STONE (0 .. 9)")
    static void stoneIs0To9() {
        Counted x = new Counted();
        due("climber(0, 1, 0, 0)", x.climber(0, 1, 0, 0), 0);
        due("climber(0, 1, 9, 0)", x.climber(0, 1, 9, 0), 1);
        due("of(1, 2)", x.of(1, 2), 9);
        for (int w : new int[] {-1, 10, LOWEST, GREATEST}) {
            bad(x, "climber(0, 1, " + w + ", 0)", () -> x.climber(0, 1, w, 0));
        }
    }

    @Sentence(promise = 5, says = "WISHES (bits 0 .. 255: of PITCH p 1: RIGHT, 0: LEFT)")
    static void wishesAre0To255() {
        Counted x = new Counted();
        due("climber(0, 1, 0, 0)", x.climber(0, 1, 0, 0), 0);
        due("climber(0, 1, 0, 255)", x.climber(0, 1, 0, 255), 1);
        due("of(1, 3)", x.of(1, 3), 255);
        for (int w : new int[] {-1, 256, LOWEST, GREATEST}) {
            bad(x, "climber(0, 1, 0, " + w + ")", () -> x.climber(0, 1, 0, w));
        }
    }

    @Sentence(promise = {5, 11}, says = "of PITCH p 1: RIGHT, 0: LEFT")
    static void wishesAreByThePitchsBit() {
        for (int bit = 0; bit < 7; bit++) {
            Counted x = new Counted();
            x.climber(PLAIN, 1, 0, 1 << bit);
            for (int p = 0; p < 7; p++) {
                x.pitch(p, 0, p + 1, 8);
            }
            for (int p = 0; p <= bit; p++) {
                due("go() from " + p + ", RIGHT at " + bit, x.go(), p == bit ? 8 : p + 1);
            }
        }
    }

    @Sentence(promise = {5, 13}, says = "Each SAGS or not, RESTS or not (neither at first).")
    static void neitherSagsNorRestsAtFirst() {
        Counted x = withClimbers(1);
        x.sag(0, 1);
        x.rest(0, 1);
        for (int c = 1; c < 5; c++) {
            x.climber(PLAIN, 1, 0, 0);
            due("of(" + c + ", 4)", x.of(c, 4), 0);
            due("of(" + c + ", 5)", x.of(c, 5), 0);
        }
        due("SAGS of the first stays", x.of(0, 4), 1);
        due("RESTS of the first stays", x.of(0, 5), 1);
    }

    @Sentence(promise = 5, says = "A CLIMBER: the number. BAD; FULL: 5.")
    static void aSixthClimberIsFull() {
        Counted x = withClimbers(4);
        due("the fifth", x.climber(PLAIN, 1, 0, 0), 4);
        x.sag(4, 1);
        full(x, "the sixth", () -> x.climber(PLAIN, 1, 0, 0));
        due("what may be undone stays", x.undo(), 0);
        bad(x, "BAD ahead of FULL: KIND", () -> x.climber(6, 1, 0, 0));
        bad(x, "BAD ahead of FULL: WEIGHT", () -> x.climber(0, 31, 0, 0));
        bad(x, "BAD ahead of FULL: STONE", () -> x.climber(0, 1, 10, 0));
        bad(x, "BAD ahead of FULL: WISHES", () -> x.climber(0, 1, 0, 256));
        x.wall();
        due("behind wall()", x.climber(PLAIN, 1, 0, 0), 0);
    }

    // ---- 6, 7: type, clear

    @Sentence(promise = 6, says = "A byte (0 .. 127) comes behind THE TEXT: how many it has. BAD; FULL.")
    static void aByteIs0To127() {
        Counted x = new Counted();
        due("type(0)", x.type(0), 1);
        due("type(127)", x.type(127), 2);
        for (int w : new int[] {-1, 128, 256, LOWEST, GREATEST}) {
            bad(x, "type(" + w + ")", () -> x.type(w));
        }
        due("type(1)", x.type(1), 3);
    }

    @Sentence(promise = {6, 8}, says = "THE WALL is told by a TEXT (150 bytes at most)")
    static void theTextHas150BytesAtMost() {
        // 5 bytes, 24 times 6, a blank: 150.
        Counted x = typed("wall;" + "ice 0;".repeat(24));
        due("the 150th byte", x.type(32), 150);
        full(x, "the 151st byte", () -> x.type(32));
        bad(x, "BAD ahead of FULL", () -> x.type(128));
        due("read() of 150 bytes", x.read(), 25);
        due("clear() of 150 bytes", x.clear(), 150);
        due("type() behind clear()", x.type(65), 1);
    }

    @Sentence(promise = 7, says = "THE TEXT is empty: how many it had.")
    static void clearEmptiesTheText() {
        Counted x = new Counted();
        asks(x, "clear() of an empty one", x::clear, 0);
        type(x, "wall;ice 0;");
        due("clear()", x.clear(), 11);
        due("count(6)", x.count(6), 0);
        due("clear() again", x.clear(), 0);
        due("read() of an empty one", x.read(), -10);
        type(x, "wall;");
        due("bytes that were there are not read", x.read(), 1);
        due("ICE", x.ice(0, 0), 0);
        // A word, a number that would go on with the bytes that were there.
        Counted word = typed("walls;");
        word.clear();
        type(word, "wall");
        due("read() of 'wall', where there was 'walls;'", word.read(), -14);
        Counted number = typed("wall;ice 007;");
        number.clear();
        type(number, "wall;ice 0");
        due("read() of 'wall;ice 0', where there was 'wall;ice 007;'", number.read(), -20);
    }

    // ---- 8: read, what stands in a text

    @Sentence(promise = 8, says = "THE WALL is read: how many ITEMS.")
    static void readAnswersHowManyItems() {
        wallOf("wall;", 1);
        wallOf("wall;ice 0;", 2);
        wallOf("wall;ice 0;pitch 0 0 1 1;climber 0 1 0;ice 1;", 5);
    }

    @Sentence(promise = 8, says = "of ITEMS, each ended by ; :")
    static void eachItemIsEndedByAStop() {
        fault("wall", 4);
        fault("wall ice 0;", 5);
        fault("wall;ice 0", 10);
        fault("wall;ice 0 ice 1;", 11);
        fault("wall;pitch 0 0 1 1 ice 0;", 19);
        fault("wall;climber 0 1 0 ice 0;", 19);
        fault("wall;;", 5);
        fault("wall;ice 0;;", 11);
    }

    @Sentence(promise = 8, says = "wall (once, first of all)")
    static void wallIsOnceAndFirstOfAll() {
        wallOf("wall;", 1);
        fault("wall;wall;", 5);
        fault("ice 0;wall;", 0);
        fault("ice 0;", 0);
    }

    @Sentence(promise = 8, says = "pitch p HARD LEFT RIGHT")
    static void aPitchInATextHasFourNumbers() {
        Counted x = wallOf("wall;pitch 0 9 1 8;pitch 7 0 8 8;", 3);
        due("HARD of 0", x.pitch(0, 0, 1, 8), 9);
        due("LEFT of 0", x.path(0), 1);
        x.climber(PLAIN, 1, 0, 1);
        due("RIGHT of 0", x.path(0), 8);
        fault("wall;pitch;", 10);
        fault("wall;pitch 0;", 12);
        fault("wall;pitch 0 0;", 14);
        fault("wall;pitch 0 0 1;", 16);
        fault("wall;pitch 0 0 1 1 1;", 19);
    }

    @Sentence(promise = 8, says = "ice p;")
    static void iceInATextHasOneNumber() {
        Counted x = wallOf("wall;ice 0;ice 7;", 3);
        for (int p = 0; p < 8; p++) {
            due("ICE of " + p, x.ice(p, 0), p == 0 || p == 7 ? 1 : 0);
        }
        fault("wall;ice;", 8);
        fault("wall;ice 0 0;", 11);
        fault("wall;ice 8;", 9);
    }

    @Sentence(promise = 8,
        says = "climber KIND WEIGHT STONE and the PITCHES (0 .. 7, any) at which one WISHES RIGHT.")
    static void aClimberInATextHasAnyPitches() {
        Counted x = wallOf("wall;climber 0 1 0;climber 5 30 9 0 1 2 3 4 5 6 7;climber 4 2 3 7;climber 1 1 1 0;", 5);
        long[][] want = {{0, 1, 0, 0, 0, 0}, {5, 30, 9, 255, 0, 0}, {4, 2, 3, 128, 0, 0}, {1, 1, 1, 1, 0, 0}};
        due("count(0)", x.count(0), 4);
        for (int c = 0; c < 4; c++) {
            for (int what = 0; what < 6; what++) {
                due("of(" + c + ", " + what + ")", x.of(c, what), want[c][what]);
            }
        }
        fault("wall;climber;", 12);
        fault("wall;climber 0;", 14);
        fault("wall;climber 0 1;", 16);
        fault("wall;climber 0 1 0 8;", 19);
        fault("wall;climber 0 1 0 7 8;", 21);
    }

    @Sentence(promise = 8, says = "TOKENS: words of letters a .. z")
    static void wordsAreOfLettersAToZ() {
        // With z a letter, the word is none; were it not, the fault would be behind 'wall'.
        fault("wallz;", 0);
        fault("walla;", 0);
        fault("wall{", 4);
        fault("wall`", 4);
        fault("wallA;", 4);
        fault("wallZ;", 4);
        fault("Wall;", 0);
        fault("waLl;", 0);
        fault("wall;Ice 0;", 5);
        // A figure is no letter: it ends the word.
        fault("wall0;", 4);
        fault("wall;ice 0x;", 10);
        fault("wall;ice x0;", 9);
    }

    @Sentence(promise = 8, says = "figures (1 or 2 are one number)")
    static void oneOrTwoFiguresAreOneNumber() {
        Counted x = wallOf("wall;pitch 00 09 01 08;ice 07;climber 05 30 09 00 7;", 4);
        due("HARD of 0", x.pitch(0, 0, 1, 8), 9);
        due("ICE of 7", x.ice(7, 0), 1);
        due("KIND", x.of(0, 0), 5);
        due("WEIGHT", x.of(0, 1), 30);
        due("STONE", x.of(0, 2), 9);
        due("WISHES", x.of(0, 3), 129);
        // The bytes beside 0 and 9 are no figures.
        fault("wall;ice 0/;", 10);
        fault("wall;ice 0:;", 10);
        fault("wall;ice /;", 9);
        fault("wall;ice :;", 9);
        fault("wall;climber 0 3 0 0 1 10;", 23);
    }

    @Sentence(promise = 8, says = "blanks (32) between")
    static void blanksAreBetween() {
        Counted x = wallOf("   wall  ;  ice   7   ;   climber  0  1  0  ;   ", 3);
        due("ICE of 7", x.ice(7, 0), 1);
        fault("wa ll;", 0);
        fault("wall;ice 0 7;", 11);
        for (char c : new char[] {0, 9, 10, 13, 31, 33, 127}) {
            fault("wall;" + c + "ice 0;", 5);
            fault("wall;ice" + c + "0;", 8);
            fault(c + "wall;", 0);
            fault("wall;" + c, 5);
        }
    }

    // ---- 8: read, its faults

    @Sentence(promise = 8, says = "FAULT: the place of the first byte of the first TOKEN that can not stand there")
    static void theFaultIsTheFirstTokensFirstByte() {
        fault("wall;ice 8;rope;wall;-", 9);
        fault("wall;rope;ice 8;", 5);
        fault("wall;climber 0 31 10;", 15);
        fault("   tall;", 3);
        fault("wall;ice    12;", 12);
        fault("wall;pitch 9 10 0 0;", 11);
    }

    @Sentence(promise = 8, says = "(a word that is none,")
    static void aWordThatIsNone() {
        String[] none = {"wal", "wwall", "rope", "pitc", "pitchh", "ic", "ices", "icy", "climbe", "climbers", "a", "z"};
        for (String word : none) {
            fault(word + ";", 0);
            fault("wall;" + word + " 0 0 1 1;", 5);
        }
        fault("walls;", 0);
        fault("wall;ice x;", 9);
        fault("wall;pitch 0 0 1 x;", 17);
        fault("wall;climber 0 1 0 x;", 19);
    }

    @Sentence(promise = 8, says = "wall again,")
    static void wallAgain() {
        fault("wall;wall;", 5);
        fault("wall;ice 0;wall;", 11);
        fault("wall wall;", 5);
        fault("wall;ice wall;", 9);
        fault("wall;wall", 5);
    }

    @Sentence(promise = 8, says = "anything ahead of it,")
    static void anythingAheadOfWall() {
        for (String ahead : new String[] {";", "0", "7;", "-", "ice 0;", "pitch 0 0 1 1;", ONE, "rope;"}) {
            fault(ahead + " wall;", 0);
            fault("  " + ahead + " wall;", 2);
        }
    }

    @Sentence(promise = 8, says = "a 6th climber at its word,")
    static void aSixthClimberInATextIsAFaultAtItsWord() {
        String five = "wall;" + ONE.repeat(5);
        due("five CLIMBERS", wallOf(five, 6).count(0), 5);
        fault(five + ONE, 75);
        fault(five + "climber 6 31 10;", 75);
        fault(five + "climber", 75);
        fault(five + "climber -", 75);
        fault(five + "ice 0; climber", 82);
        wallOf(five + "ice 0;pitch 0 0 1 1;", 8);
        // Those who are there ahead of it do not count.
        Counted x = withClimbers(5);
        type(x, five);
        due("read(), where there are five", x.read(), 6);
        due("count(0)", x.count(0), 5);
    }

    @Sentence(promise = 8, says = "a third figure's number,")
    static void aNumberOfThreeFigures() {
        fault("wall;ice 007;", 9);
        fault("wall;ice 000;", 9);
        fault("wall;ice 0071;", 9);
        fault("wall;pitch 000 0 1 1;", 11);
        fault("wall;pitch 0 009 1 1;", 13);
        fault("wall;pitch 0 0 001 1;", 15);
        fault("wall;pitch 0 0 1 001;", 17);
        fault("wall;climber 000 1 0;", 13);
        fault("wall;climber 0 030 0;", 15);
        fault("wall;climber 0 1 009;", 17);
        fault("wall;climber 0 1 0 007;", 19);
        fault("wall;climber 0 1 0 7 000;", 21);
        fault("wall;ice 007", 9);
    }

    @Sentence(promise = 8, says = "a number not as told,")
    static void aNumberNotAsTold() {
        fault("wall;pitch 8 0 8 8;", 11);
        fault("wall;pitch 0 10 1 1;", 13);
        fault("wall;pitch 0 0 9 1;", 15);
        fault("wall;pitch 0 0 1 9;", 17);
        fault("wall;ice 8;", 9);
        fault("wall;ice 99;", 9);
        fault("wall;climber 6 1 0;", 13);
        fault("wall;climber 0 0 0;", 15);
        fault("wall;climber 0 00 0;", 15);
        fault("wall;climber 0 31 0;", 15);
        fault("wall;climber 0 1 10;", 17);
        fault("wall;climber 0 1 0 8;", 19);
        fault("wall;climber 0 1 0 10;", 19);
        fault("wall 0;", 5);
        fault("wall;0;", 5);
        wallOf("wall;pitch 7 9 8 8;ice 7;climber 5 30 9 7;climber 0 1 0 0;", 5);
    }

    @Sentence(promise = 8, says = "also LEFT, RIGHT no greater than p,")
    static void aWayInATextNoGreaterThanItsPitch() {
        for (int p = 0; p < 8; p++) {
            String ahead = "wall;pitch " + p + " 0 ";
            fault(ahead + p + " 8;", 15);
            fault(ahead + "8 " + p + ";", 17);
            fault(ahead + "0 8;", 15);
            fault(ahead + "8 0;", 17);
            wallOf(ahead + (p + 1) + " 8;", 2);
            wallOf(ahead + "8 " + (p + 1) + ";", 2);
        }
    }

    @Sentence(promise = 8, says = "a byte that begins none, too)")
    static void aByteThatBeginsNoToken() {
        for (char c = 0; c < 128; c++) {
            boolean begins = c == ';' || c >= '0' && c <= '9' || c >= 'a' && c <= 'z';
            if (c != 32 && !begins) {
                fault("wall;" + c, 5);
                fault("wall;ice " + c + "0;", 9);
                fault(c + ";", 0);
                fault("wall;ice 0" + c + ";", 10);
            }
        }
    }

    @Sentence(promise = 8, says = "the TEXT's length, if it ends too early (an empty one, too).")
    static void aTextThatEndsTooEarly() {
        fault("", 0);
        fault(" ", 1);
        fault("   ", 3);
        for (String text : new String[] {"wall", "wall;ice", "wall;ice 0", "wall;pitch", "wall;pitch 0",
            "wall;pitch 0 3", "wall;pitch 0 3 1", "wall;pitch 0 3 1 4", "wall;climber", "wall;climber 0",
            "wall;climber 0 1", "wall;climber 0 1 0", "wall;climber 0 1 0 7", "wall;ice 0;ice"}) {
            fault(text, text.length());
            fault(text + "  ", text.length() + 2);
        }
        fault("wall" + " ".repeat(146), 150);
        // The last TOKEN ends where THE TEXT has no room for more.
        fault(" ".repeat(146) + "wall", 150);
        fault("wall;" + " ".repeat(140) + "ice 0", 150);
        fault("wall;" + " ".repeat(140) + "ice07", 150);
        fault("wall;" + " ".repeat(142) + "ice", 150);
        fault(" ".repeat(150), 150);
    }

    @Sentence(promise = 8, says = "-10 less the FAULT: all stays.")
    static void aFaultLeavesAll() {
        Counted x = new Counted();
        x.climber(GUIDE, 8, 3, 1);
        x.climber(FAT, 9, 0, 0);
        x.pitch(0, 3, 4, 6);
        x.ice(4, 1);
        x.image(0);
        x.rest(1, 1);
        x.slips(1, 3);
        x.go();
        x.sag(0, 1);
        x.note(2, 1);
        x.ice(8, 0);
        type(x, "wall;pitch 0 9 8 8;ice 1;climber 0 1 0;ice 2");
        LongSupplier read = x::read;
        asks(x, "read()", read, -10 - 44);
        asks(x, "read() again", read, -10 - 44);
        x.type(';');
        due("undo() of SAG", x.undo(), 6);
        due("undo() of GOING", x.undo(), 0);
        due("undo() of REST", x.undo(), 0);
        due("RESTS", x.of(1, 5), 0);
        due("from(0)", x.from(0), 1);
        due("CLIMBERS of the IMAGE", x.count(0), 2);
        due("THE TEXT, ended", x.read(), 5);
        due("CLIMBERS", x.count(0), 1);
    }

    @Sentence(promise = {8, 33}, says = "STATUS: how many calls were refused as BAD, NO, FULL")
    static void aFaultIsNotCounted() {
        Counted x = typed("wall;ice 8;");
        x.read();
        x.clear();
        x.read();
        for (int what = 0; what < 3; what++) {
            due("status(" + what + ")", x.status(what), 0);
        }
    }

    // ---- 8: read, what it takes the place of

    @Sentence(promise = 8, says = "(at PITCH 0, NOTES none; nothing to undo)")
    static void aWallThatIsReadTakesThePlaceOfAll() {
        Counted y = typed("wall;");
        long bare = y.digest();
        Counted x = withClimbers(5);
        for (int p = 0; p < 8; p++) {
            x.pitch(p, 9, 8, 8);
            x.ice(p, 1);
        }
        for (int c = 0; c < 5; c++) {
            x.sag(c, 1);
            x.rest(c, 1);
        }
        for (int i = 0; i < 6; i++) {
            x.note(7, i - 1);
        }
        x.note(7, -1);
        goTo(x, 8);
        type(x, "wall;");
        due("read()", x.read(), 1);
        due("digest()", x.digest(), bare);
        due("the PITCH", x.count(1), 0);
        due("NOTES", x.count(4), 0);
        no(x, "undo()", x::undo);
    }

    @Sentence(promise = 8,
        says = "A WALL that is read takes the place of all but IMAGES, THE TEXT, THE FRACTION, STATUS")
    static void aWallThatIsReadLeavesImagesTextFractionStatus() {
        Counted x = withClimbers(3);
        x.image(1);
        x.rest(0, 1);
        x.rest(1, 1);
        x.rest(2, 1);
        x.slips(0, 7);
        x.ice(8, 0);
        x.from(0);
        x.climber(PLAIN, 1, 0, 0);
        x.climber(PLAIN, 1, 0, 0);
        x.climber(PLAIN, 1, 0, 0);
        type(x, "wall;climber 3 7 2;");
        due("read()", x.read(), 2);
        fractionIs(x, "THE FRACTION", 7, 10);
        due("STATUS of BAD", x.status(0), 1);
        due("STATUS of NO", x.status(1), 1);
        due("STATUS of FULL", x.status(2), 1);
        due("bytes of THE TEXT", x.count(6), 19);
        due("read() again", x.read(), 2);
        due("from(1)", x.from(1), 1);
        due("CLIMBERS of the IMAGE", x.count(0), 3);
        no(x, "from(0)", () -> x.from(0));
    }

    @Sentence(promise = 8, says = "climber KIND WEIGHT STONE")
    static void climbersThatAreReadNeitherSagNorRest() {
        Counted x = withClimbers(1);
        x.sag(0, 1);
        x.rest(0, 1);
        type(x, "wall;" + ONE);
        x.read();
        due("SAGS", x.of(0, 4), 0);
        due("RESTS", x.of(0, 5), 0);
        due("those who come behind them", x.climber(PLAIN, 1, 0, 0), 1);
    }
}
