import java.util.Arrays;

/**
 * Whose is the rope: who says where at each pitch of a wall, and what follows from it.
 *
 * The face looks at every number, counts what it refuses, and asks the classes inside. They take it
 * that numbers have been looked at. What is only supposed is tried on a rope of its own, never on the
 * real one, so that a question changes nothing.
 */
public final class RopeLaw {
    public static final int NONE = -1, BAD = -2, NO = -3, FULL = -4;

    /** THE TOP is the pitch behind the last one, so this is also how many pitches there are. */
    private static final int TOP = 8;
    private static final int MOST_CLIMBERS = 5;
    private static final int MOST_NOTES = 6;
    private static final int MOST_UNDOS = 8;
    private static final int MOST_BYTES = 150;
    private static final int MOST_HARD = 9;
    private static final int MOST_WEIGHT = 30;
    private static final int MOST_STONE = 9;
    private static final int MOST_WISHES = 255;
    private static final int MOST_SEED = 999999;
    private static final int MOST_TURNS = 60;
    private static final int IMAGES = 2;
    private static final int ODDS = 10;

    private static final int PLAIN = 0, LIGHT = 1, GUIDE = 2, FAT = 3, SHORT = 4, LEADER = 5;

    /** The answer to what is BAD in the calls for which the document tells another number than BAD's. */
    private static final int OTHER_BAD = -10;
    private static final int NOT_SO_MANY = -5;
    private static final int FAULT = -10;

    private final Scene now;
    /** What a text tells, until it is known to be without a fault. */
    private final Scene draft;
    private final Scene[] images;
    private final int[] kept;
    private final Text text;
    private final Voices voices;
    private final Ways ways;
    private final Tying tying;
    private final Guess guess;
    private long above;
    private long below;
    private int bads;
    private int noes;
    private int fulls;

    public RopeLaw() {
        now = new Scene();
        draft = new Scene();
        images = new Scene[IMAGES];
        for (int i = 0; i < IMAGES; i++) {
            images[i] = new Scene();
        }
        kept = new int[IMAGES];
        text = new Text();
        voices = new Voices();
        ways = new Ways();
        tying = new Tying();
        guess = new Guess();
        above = 0;
        below = 1;
    }

    // ---- a wall

    public int wall() {
        int were = now.rope.size;
        now.reset();
        return were;
    }

    public int pitch(int p, int hard, int left, int right) {
        if (!isPitch(p) || !within(hard, 0, MOST_HARD)) {
            return bad(BAD);
        }
        if (!within(left, p + 1, TOP) || !within(right, p + 1, TOP)) {
            return bad(BAD);
        }
        int was = now.wall.hard[p];
        now.wall.tell(p, hard, left, right);
        return was;
    }

    public int ice(int p, int is) {
        if (!isPitch(p) || !isFlag(is)) {
            return bad(BAD);
        }
        int was = now.wall.ice[p];
        now.wall.ice[p] = is;
        return was;
    }

    public int climber(int kind, int weight, int stone, int wishes) {
        if (!within(kind, PLAIN, LEADER) || !within(weight, 1, MOST_WEIGHT)) {
            return bad(BAD);
        }
        if (!within(stone, 0, MOST_STONE) || !within(wishes, 0, MOST_WISHES)) {
            return bad(BAD);
        }
        if (now.rope.size >= MOST_CLIMBERS) {
            return full();
        }
        now.rope.add(kind, weight, stone, wishes);
        now.undos.size = 0;
        return now.rope.size - 1;
    }

    public int type(int c) {
        if (!within(c, 0, 127)) {
            return bad(BAD);
        }
        if (text.length >= MOST_BYTES) {
            return full();
        }
        text.append(c);
        return text.length;
    }

    public int clear() {
        int had = text.length;
        text.length = 0;
        return had;
    }

    public int read() {
        int items = text.tellAll(draft);
        if (items >= 0) {
            now.copyFrom(draft);
        }
        return items;
    }

    // ---- on the rope

    public int sag(int climber, int is) {
        if (!isClimber(climber) || !isFlag(is)) {
            return bad(BAD);
        }
        now.remember();
        int was = now.rope.sags[climber];
        now.rope.sags[climber] = is;
        return was;
    }

    public int rest(int climber, int is) {
        if (!isClimber(climber) || !isFlag(is)) {
            return bad(BAD);
        }
        now.remember();
        int was = now.rope.rests[climber];
        now.rope.rests[climber] = is;
        return was;
    }

    public int go() {
        if (now.at >= TOP) {
            return no();
        }
        now.remember();
        now.at = now.rope.next(now.wall, now.at);
        now.rope.setSags(0);
        return now.at;
    }

    public int undo() {
        if (now.undos.size <= 0) {
            return no();
        }
        now.goBack();
        return now.at;
    }

    public int of(int climber, int what) {
        if (!isClimber(climber)) {
            return bad(BAD);
        }
        switch (what) {
            case 0: return now.rope.kind[climber];
            case 1: return now.rope.weight[climber];
            case 2: return now.rope.stone[climber];
            case 3: return now.rope.wishes[climber];
            case 4: return now.rope.sags[climber];
            case 5: return now.rope.rests[climber];
            default: return bad(BAD);
        }
    }

    public int hangs(int climber, int p) {
        if (!isClimber(climber) || !isPitch(p)) {
            return bad(BAD);
        }
        return now.rope.hang(climber, now.wall.hard[p]);
    }

    public int says(int p) {
        if (!isPitch(p)) {
            return bad(OTHER_BAD);
        }
        return now.rope.sayer(now.wall, p);
    }

    // ---- where they go

    public int path(int i) {
        if (i < NONE) {
            return bad(OTHER_BAD);
        }
        ways.walk(now);
        if (i == NONE) {
            return ways.steps;
        }
        return i < ways.steps ? ways.step[i] : NOT_SO_MANY;
    }

    public int by(int p, int what) {
        if (!within(p, 0, TOP) || !isFlag(what)) {
            return bad(BAD);
        }
        int fewest = ways.fewestSags(now, p);
        if (fewest == NONE) {
            return NONE;
        }
        return what == 0 ? fewest >> MOST_CLIMBERS : fewest & (1 << MOST_CLIMBERS) - 1;
    }

    public int canSay(int p) {
        if (!isPitch(p)) {
            return bad(BAD);
        }
        return voices.ofAllSags(now, p);
    }

    public int mine(int climber) {
        if (!isClimber(climber)) {
            return bad(BAD);
        }
        return voices.neverOf(now, climber);
    }

    public int tied(int climber, int i) {
        if (!isClimber(climber) || i < NONE) {
            return bad(OTHER_BAD);
        }
        if (i >= now.rope.size) {
            return NOT_SO_MANY;
        }
        int most = tying.bestFor(now, climber);
        return i == NONE ? most : tying.best[i];
    }

    public int cut(int i, int what) {
        if (!within(i, 0, now.rope.size - 2) || !isFlag(what)) {
            return bad(OTHER_BAD);
        }
        if (now.at >= TOP) {
            return no();
        }
        return what == 0 ? voices.ofPart(now, 0, i + 1) : voices.ofPart(now, i + 1, now.rope.size);
    }

    public int rests(int a, int b) {
        if (!isClimber(a) || !isClimber(b) || a == b) {
            return bad(BAD);
        }
        if (now.at >= TOP) {
            return no();
        }
        return voices.restingPairs(now, a, b);
    }

    // ---- stones

    public int note(int p, int climber) {
        if (!isPitch(p) || !within(climber, NONE, now.rope.size - 1)) {
            return bad(BAD);
        }
        if (now.notes.size >= MOST_NOTES) {
            return full();
        }
        now.notes.add(p, climber);
        return now.notes.size;
    }

    public int forget() {
        int were = now.notes.size;
        now.notes.size = 0;
        return were;
    }

    public int stones(int climber) {
        if (!isClimber(climber)) {
            return bad(BAD);
        }
        return guess.fittingStones(now, climber);
    }

    public int is(int climber) {
        if (!isClimber(climber)) {
            return bad(BAD);
        }
        return guess.fittingKinds(now, climber);
    }

    public int look(int climber) {
        if (!isClimber(climber)) {
            return bad(BAD);
        }
        return guess.tellingPitch(now, climber);
    }

    public int slips(int climber, int c) {
        if (!isClimber(climber) || !within(c, 0, ODDS)) {
            return bad(BAD);
        }
        if (now.at >= TOP) {
            return no();
        }
        long all = 1;
        for (int i = 0; i < now.rope.size; i++) {
            all *= ODDS;
        }
        setFraction(voices.casesOf(now, climber, c), all);
        return 1;
    }

    public int walls(int seed, int n, int p) {
        if (!within(seed, 0, MOST_SEED) || !within(n, 0, MOST_TURNS) || !within(p, 0, TOP)) {
            return bad(BAD);
        }
        return ways.timesBy(now, seed, n, p);
    }

    // ---- what there is

    public long part(int what) {
        if (!isFlag(what)) {
            return bad(BAD);
        }
        return what == 0 ? above : below;
    }

    public int image(int i) {
        if (!within(i, 0, IMAGES - 1)) {
            return bad(BAD);
        }
        images[i].copyFrom(now);
        kept[i] = 1;
        return 1;
    }

    public int from(int i) {
        if (!within(i, 0, IMAGES - 1)) {
            return bad(BAD);
        }
        if (kept[i] == 0) {
            return no();
        }
        now.copyFrom(images[i]);
        return 1;
    }

    public int status(int what) {
        switch (what) {
            case 0: return bads;
            case 1: return noes;
            case 2: return fulls;
            default: return bad(-1);
        }
    }

    public int count(int what) {
        switch (what) {
            case 0: return now.rope.size;
            case 1: return now.at;
            case 2: return Integer.bitCount(now.rope.sagBits());
            case 3: return Integer.bitCount(now.rope.restBits());
            case 4: return now.notes.size;
            case 5: return now.undos.size;
            case 6: return text.length;
            default: return bad(BAD);
        }
    }

    public long digest() {
        long h = 1153;
        for (int what = 0; what <= 6; what++) {
            h = fold(h, count(what));
        }
        h = foldPitches(h);
        h = foldClimbers(h);
        h = foldNotes(h);
        h = fold(h, above);
        return fold(h, below);
    }

    private long foldPitches(long before) {
        long h = before;
        Wall wall = now.wall;
        for (int p = 0; p < TOP; p++) {
            h = fold(h, wall.ice[p]);
            h = fold(h, wall.hard[p]);
            h = fold(h, wall.left[p]);
            h = fold(h, wall.right[p]);
        }
        return h;
    }

    private long foldClimbers(long before) {
        long h = before;
        Rope rope = now.rope;
        for (int c = 0; c < rope.size; c++) {
            h = fold(h, rope.kind[c]);
            h = fold(h, rope.weight[c]);
            h = fold(h, rope.stone[c]);
            h = fold(h, rope.wishes[c]);
            h = fold(h, rope.sags[c]);
            h = fold(h, rope.rests[c]);
        }
        return h;
    }

    private long foldNotes(long before) {
        long h = before;
        for (int i = 0; i < now.notes.size; i++) {
            h = fold(h, now.notes.pitch[i]);
            h = fold(h, now.notes.climber[i]);
        }
        return h;
    }

    private static long fold(long h, long v) {
        return 31 * h + v;
    }

    private void setFraction(long up, long down) {
        long common = commonDivisor(up, down);
        if (common > 0) {
            above = up / common;
            below = down / common;
        }
    }

    private static long commonDivisor(long one, long other) {
        long a = one;
        long b = other;
        for (int i = 0; i < 1000 && b != 0; i++) {
            long over = a % b;
            a = b;
            b = over;
        }
        return a;
    }

    private int bad(int answer) {
        bads++;
        return answer;
    }

    private int no() {
        noes++;
        return NO;
    }

    private int full() {
        fulls++;
        return FULL;
    }

    private boolean isClimber(int c) {
        return within(c, 0, now.rope.size - 1);
    }

    private static boolean isPitch(int p) {
        return within(p, 0, TOP - 1);
    }

    private static boolean isFlag(int is) {
        return within(is, 0, 1);
    }

    private static boolean within(int v, int least, int most) {
        return v >= least && v <= most;
    }

    /** The pitches; each way leads to a greater number, so every way comes to THE TOP. */
    private static final class Wall {
        final int[] ice = new int[TOP];
        final int[] hard = new int[TOP];
        final int[] left = new int[TOP];
        final int[] right = new int[TOP];

        void reset() {
            for (int p = 0; p < TOP; p++) {
                ice[p] = 0;
                tell(p, 0, p + 1, p + 1);
            }
        }

        void tell(int p, int howHard, int toLeft, int toRight) {
            hard[p] = howHard;
            left[p] = toLeft;
            right[p] = toRight;
        }

        void copyFrom(Wall other) {
            System.arraycopy(other.ice, 0, ice, 0, TOP);
            System.arraycopy(other.hard, 0, hard, 0, TOP);
            System.arraycopy(other.left, 0, left, 0, TOP);
            System.arraycopy(other.right, 0, right, 0, TOP);
        }
    }

    /** Those who are tied, by place. On a supposed rope, who has the numbers they bear on the real one. */
    private static final class Rope {
        int size;
        final int[] who = new int[MOST_CLIMBERS];
        final int[] kind = new int[MOST_CLIMBERS];
        final int[] weight = new int[MOST_CLIMBERS];
        final int[] stone = new int[MOST_CLIMBERS];
        final int[] wishes = new int[MOST_CLIMBERS];
        final int[] sags = new int[MOST_CLIMBERS];
        final int[] rests = new int[MOST_CLIMBERS];

        void add(int itsKind, int itsWeight, int itsStone, int itsWishes) {
            if (size >= MOST_CLIMBERS) {
                return;
            }
            who[size] = size;
            kind[size] = itsKind;
            weight[size] = itsWeight;
            stone[size] = itsStone;
            wishes[size] = itsWishes;
            sags[size] = 0;
            rests[size] = 0;
            size++;
        }

        void tie(Rope other, int place) {
            if (size >= MOST_CLIMBERS || place < 0 || place >= other.size) {
                return;
            }
            who[size] = other.who[place];
            kind[size] = other.kind[place];
            weight[size] = other.weight[place];
            stone[size] = other.stone[place];
            wishes[size] = other.wishes[place];
            sags[size] = other.sags[place];
            rests[size] = other.rests[place];
            size++;
        }

        /** Ties anew what the other rope has from one place up to, but without, another. */
        void tiePart(Rope other, int from, int to) {
            size = 0;
            for (int place = from; place < to; place++) {
                tie(other, place);
            }
        }

        void copyFrom(Rope other) {
            tiePart(other, 0, other.size);
        }

        int hang(int place, int hard) {
            int plain = rests[place] == 1 ? 0 : weight[place] + stone[place];
            int light = plain / 2;
            int guide = sags[place] == 1 ? plain + 5 : plain;
            switch (kind[place]) {
                case LIGHT: return light;
                case GUIDE: return guide;
                case FAT: return rests[place] == 1 ? 0 : plain + hard;
                case SHORT: return light > 0 ? light + 2 * place : 0;
                case LEADER: return sags[place] == 1 ? guide : 0;
                default: return plain;
            }
        }

        private int placeOfSayer(Wall wall, int p) {
            int heaviest = NONE;
            int most = 0;
            for (int place = 0; place < size; place++) {
                int here = hang(place, wall.hard[p]);
                if (here > 0 && wall.ice[p] == 1) {
                    return place;
                }
                if (here > most) {
                    most = here;
                    heaviest = place;
                }
            }
            return heaviest;
        }

        int sayer(Wall wall, int p) {
            int place = placeOfSayer(wall, p);
            return place == NONE ? NONE : who[place];
        }

        int next(Wall wall, int p) {
            int place = placeOfSayer(wall, p);
            boolean right = place != NONE && (wishes[place] >> p & 1) == 1;
            return right ? wall.right[p] : wall.left[p];
        }

        void setSags(int bits) {
            for (int place = 0; place < size; place++) {
                sags[place] = bits >> place & 1;
            }
        }

        void setRests(int bits) {
            for (int place = 0; place < size; place++) {
                rests[place] = bits >> place & 1;
            }
        }

        int sagBits() {
            int bits = 0;
            for (int place = 0; place < size; place++) {
                bits |= sags[place] << place;
            }
            return bits;
        }

        int restBits() {
            int bits = 0;
            for (int place = 0; place < size; place++) {
                bits |= rests[place] << place;
            }
            return bits;
        }
    }

    private static final class Notes {
        int size;
        final int[] pitch = new int[MOST_NOTES];
        final int[] climber = new int[MOST_NOTES];

        void add(int p, int c) {
            if (size >= MOST_NOTES) {
                return;
            }
            pitch[size] = p;
            climber[size] = c;
            size++;
        }

        void copyFrom(Notes other) {
            size = other.size;
            System.arraycopy(other.pitch, 0, pitch, 0, MOST_NOTES);
            System.arraycopy(other.climber, 0, climber, 0, MOST_NOTES);
        }
    }

    /** What stood ahead of each call that may be undone, the oldest first. */
    private static final class Undos {
        int size;
        final int[] at = new int[MOST_UNDOS];
        final int[] sagBits = new int[MOST_UNDOS];
        final int[] restBits = new int[MOST_UNDOS];

        void push(int wereAt, int sagged, int rested) {
            if (size >= MOST_UNDOS) {
                dropOldest();
            }
            at[size] = wereAt;
            sagBits[size] = sagged;
            restBits[size] = rested;
            size++;
        }

        private void dropOldest() {
            size = MOST_UNDOS - 1;
            for (int i = 0; i < size; i++) {
                at[i] = at[i + 1];
                sagBits[i] = sagBits[i + 1];
                restBits[i] = restBits[i + 1];
            }
        }

        void copyFrom(Undos other) {
            size = other.size;
            System.arraycopy(other.at, 0, at, 0, MOST_UNDOS);
            System.arraycopy(other.sagBits, 0, sagBits, 0, MOST_UNDOS);
            System.arraycopy(other.restBits, 0, restBits, 0, MOST_UNDOS);
        }
    }

    /** All that an image keeps. */
    private static final class Scene {
        final Wall wall = new Wall();
        final Rope rope = new Rope();
        final Notes notes = new Notes();
        final Undos undos = new Undos();
        int at;

        Scene() {
            wall.reset();
        }

        void reset() {
            wall.reset();
            rope.size = 0;
            notes.size = 0;
            undos.size = 0;
            at = 0;
        }

        void copyFrom(Scene other) {
            wall.copyFrom(other.wall);
            rope.copyFrom(other.rope);
            notes.copyFrom(other.notes);
            undos.copyFrom(other.undos);
            at = other.at;
        }

        void remember() {
            undos.push(at, rope.sagBits(), rope.restBits());
        }

        void goBack() {
            if (undos.size <= 0) {
                return;
            }
            undos.size--;
            at = undos.at[undos.size];
            rope.setSags(undos.sagBits[undos.size]);
            rope.setRests(undos.restBits[undos.size]);
        }
    }

    /** THE TEXT, and the reading of it token by token. */
    private static final class Text {
        /** The tokens; those up to NUMBER may have more than one byte. */
        private static final int WORD = 0, NUMBER = 1, STOP = 2, WRONG = 3, OVER = 4;

        int length;
        private final byte[] bytes = new byte[MOST_BYTES];
        private int token;
        /** The token's first byte, THE TEXT's length behind the last one: so it is also the fault's place. */
        private int start;
        private int end;

        void append(int c) {
            if (length < MOST_BYTES) {
                bytes[length] = (byte) c;
                length++;
            }
        }

        /** How many items there were, or -10 less the fault. */
        int tellAll(Scene scene) {
            scene.reset();
            end = 0;
            advance();
            if (!tellStart()) {
                return FAULT - start;
            }
            int items = 1;
            for (int turn = 0; turn < MOST_BYTES && token != OVER; turn++) {
                if (!tellItem(scene)) {
                    return FAULT - start;
                }
                items++;
            }
            return items;
        }

        private boolean tellStart() {
            if (!isWord("wall")) {
                return false;
            }
            advance();
            return passStop();
        }

        private boolean tellItem(Scene scene) {
            if (isWord("pitch")) {
                advance();
                return tellPitch(scene.wall) && passStop();
            }
            if (isWord("ice")) {
                advance();
                return tellIce(scene.wall) && passStop();
            }
            // A sixth one is a fault at its word, so it is looked at ahead of its numbers.
            if (isWord("climber") && scene.rope.size < MOST_CLIMBERS) {
                advance();
                return tellClimber(scene.rope) && passStop();
            }
            return false;
        }

        private boolean tellPitch(Wall wall) {
            int p = passNumber(0, TOP - 1);
            int hard = p == NONE ? NONE : passNumber(0, MOST_HARD);
            int left = hard == NONE ? NONE : passNumber(p + 1, TOP);
            int right = left == NONE ? NONE : passNumber(p + 1, TOP);
            if (right == NONE) {
                return false;
            }
            wall.tell(p, hard, left, right);
            return true;
        }

        private boolean tellIce(Wall wall) {
            int p = passNumber(0, TOP - 1);
            if (p == NONE) {
                return false;
            }
            wall.ice[p] = 1;
            return true;
        }

        private boolean tellClimber(Rope rope) {
            int kind = passNumber(PLAIN, LEADER);
            int weight = kind == NONE ? NONE : passNumber(1, MOST_WEIGHT);
            int stone = weight == NONE ? NONE : passNumber(0, MOST_STONE);
            if (stone == NONE) {
                return false;
            }
            int wishes = 0;
            for (int turn = 0; turn < MOST_BYTES && token == NUMBER; turn++) {
                int p = passNumber(0, TOP - 1);
                if (p == NONE) {
                    return false;
                }
                wishes |= 1 << p;
            }
            rope.add(kind, weight, stone, wishes);
            return true;
        }

        private boolean passStop() {
            if (token != STOP) {
                return false;
            }
            advance();
            return true;
        }

        /** The number, which is passed, or NONE, where the token is no such number: it stays. */
        private int passNumber(int least, int most) {
            if (token != NUMBER || end - start > 2) {
                return NONE;
            }
            int value = 0;
            for (int i = start; i < end; i++) {
                value = value * 10 + bytes[i] - '0';
            }
            if (!within(value, least, most)) {
                return NONE;
            }
            advance();
            return value;
        }

        private void advance() {
            start = end;
            while (start < length && bytes[start] == ' ') {
                start++;
            }
            end = start;
            token = OVER;
            if (start >= length) {
                return;
            }
            token = sortOf(bytes[start]);
            end++;
            while (token <= NUMBER && end < length && sortOf(bytes[end]) == token) {
                end++;
            }
        }

        /** What token a byte begins. */
        private static int sortOf(int c) {
            if (c >= 'a' && c <= 'z') {
                return WORD;
            }
            if (c >= '0' && c <= '9') {
                return NUMBER;
            }
            return c == ';' ? STOP : WRONG;
        }

        private boolean isWord(String word) {
            if (token != WORD || end - start != word.length()) {
                return false;
            }
            for (int i = 0; i < word.length(); i++) {
                if (bytes[start + i] != word.charAt(i)) {
                    return false;
                }
            }
            return true;
        }
    }

    /** Who says at one pitch, by what is supposed. */
    private static final class Voices {
        private final Rope supposed = new Rope();

        int ofAllSags(Scene scene, int p) {
            supposed.copyFrom(scene.rope);
            int bits = 0;
            for (int set = 0; set < 1 << supposed.size; set++) {
                supposed.setSags(set);
                int c = supposed.sayer(scene.wall, p);
                if (c != NONE) {
                    bits |= 1 << c;
                }
            }
            return bits;
        }

        int neverOf(Scene scene, int climber) {
            int bits = 0;
            for (int p = 0; p < TOP; p++) {
                if ((ofAllSags(scene, p) >> climber & 1) == 0) {
                    bits |= 1 << p;
                }
            }
            return bits;
        }

        int ofPart(Scene scene, int from, int to) {
            if (scene.at >= TOP) {
                return NONE;
            }
            supposed.tiePart(scene.rope, from, to);
            return supposed.sayer(scene.wall, scene.at);
        }

        /** Of a pair's number, bit 0 is whether a sags, bit 1 whether b does. */
        int restingPairs(Scene scene, int a, int b) {
            if (scene.at >= TOP) {
                return 0;
            }
            supposed.copyFrom(scene.rope);
            int ofA = 0;
            int ofB = 0;
            for (int pair = 0; pair < 4; pair++) {
                supposed.sags[a] = pair & 1;
                supposed.sags[b] = pair >> 1;
                int c = supposed.sayer(scene.wall, scene.at);
                ofA |= c == a ? 1 << pair : 0;
                ofB |= c == b ? 1 << pair : 0;
            }
            int bits = 0;
            for (int pair = 0; pair < 4; pair++) {
                if (!gains(ofA, pair, pair ^ 1) && !gains(ofB, pair, pair ^ 2)) {
                    bits |= 1 << pair;
                }
            }
            return bits;
        }

        private static boolean gains(int sayingPairs, int pair, int otherwise) {
            return (sayingPairs >> pair & 1) == 0 && (sayingPairs >> otherwise & 1) == 1;
        }

        /** In how many of 10 to the number of climbers like cases one says here. */
        long casesOf(Scene scene, int climber, int c) {
            if (scene.at >= TOP) {
                return 0;
            }
            supposed.copyFrom(scene.rope);
            int resting = scene.rope.restBits();
            long cases = 0;
            for (int slipped = 0; slipped < 1 << supposed.size; slipped++) {
                supposed.setRests(resting & ~slipped);
                if (supposed.sayer(scene.wall, scene.at) == climber) {
                    cases += casesOfSlips(slipped, c);
                }
            }
            return cases;
        }

        private long casesOfSlips(int slipped, int c) {
            long cases = 1;
            for (int place = 0; place < supposed.size; place++) {
                cases *= (slipped >> place & 1) == 1 ? c : ODDS - c;
            }
            return cases;
        }
    }

    /** Where they come by, by what is supposed. */
    private static final class Ways {
        /** More sags than any way can need. */
        private static final int FAR = 1000;

        private final Rope supposed = new Rope();
        private final int[] sagsFrom = new int[TOP + 1];
        final int[] step = new int[TOP];
        int steps;

        void walk(Scene scene) {
            supposed.copyFrom(scene.rope);
            steps = 0;
            int at = scene.at;
            while (steps < TOP && at < TOP) {
                at = supposed.next(scene.wall, at);
                supposed.setSags(0);
                step[steps] = at;
                steps++;
            }
        }

        /** How many sags, times 32, and who sags here besides; so the least of them is both. NONE. */
        int fewestSags(Scene scene, int p) {
            if (p < scene.at) {
                return NONE;
            }
            if (p == scene.at) {
                return 0;
            }
            supposed.copyFrom(scene.rope);
            Arrays.fill(sagsFrom, FAR);
            sagsFrom[p] = 0;
            for (int from = p - 1; from > scene.at; from--) {
                sagsFrom[from] = leastFrom(scene.wall, from, 0) >> MOST_CLIMBERS;
            }
            int least = leastFrom(scene.wall, scene.at, scene.rope.sagBits());
            return least >> MOST_CLIMBERS >= FAR ? NONE : least;
        }

        private int leastFrom(Wall wall, int at, int sagAnyhow) {
            int least = FAR << MOST_CLIMBERS;
            for (int set = 0; set < 1 << supposed.size; set++) {
                if ((set & sagAnyhow) != 0) {
                    continue;
                }
                supposed.setSags(set | sagAnyhow);
                int sags = Integer.bitCount(set) + sagsFrom[supposed.next(wall, at)];
                least = Math.min(least, (sags << MOST_CLIMBERS) + set);
            }
            return least;
        }

        int timesBy(Scene scene, int seed, int turns, int p) {
            supposed.copyFrom(scene.rope);
            long x = seed;
            int times = 0;
            for (int turn = 0; turn < turns; turn++) {
                int at = scene.at;
                boolean came = at == p;
                for (int i = 0; i < TOP && at < TOP; i++) {
                    x = (x * 1103515245L + 12345L) % 2147483648L;
                    supposed.setSags((int) (x / 65536 % 32));
                    at = supposed.next(scene.wall, at);
                    came = came || at == p;
                }
                times += came ? 1 : 0;
            }
            return times;
        }
    }

    /** In what order to be tied. */
    private static final class Tying {
        /** As many as there are orders of five. */
        private static final int ORDERS = 120;

        private final Rope supposed = new Rope();
        private final int[] order = new int[MOST_CLIMBERS];
        final int[] best = new int[MOST_CLIMBERS];

        /** At how many pitches one says at most; best is then the first order by which one does. */
        int bestFor(Scene scene, int climber) {
            int size = scene.rope.size;
            for (int i = 0; i < size; i++) {
                order[i] = i;
            }
            int most = NONE;
            boolean more = true;
            // No order does better than all pitches, so the first that has them is the one.
            for (int turn = 0; turn < ORDERS && more && most < TOP; turn++) {
                int times = timesSaying(scene, climber);
                if (times > most) {
                    most = times;
                    System.arraycopy(order, 0, best, 0, size);
                }
                more = takeNextOrder(size);
            }
            return most;
        }

        private int timesSaying(Scene scene, int climber) {
            supposed.size = 0;
            for (int i = 0; i < scene.rope.size; i++) {
                supposed.tie(scene.rope, order[i]);
            }
            supposed.setSags(0);
            int times = 0;
            for (int p = 0; p < TOP; p++) {
                times += supposed.sayer(scene.wall, p) == climber ? 1 : 0;
            }
            return times;
        }

        /** Goes on to the next greater order; false behind the greatest. */
        private boolean takeNextOrder(int size) {
            int rise = size - 2;
            while (rise >= 0 && order[rise] > order[rise + 1]) {
                rise--;
            }
            if (rise < 0) {
                return false;
            }
            int greater = size - 1;
            while (greater > rise + 1 && order[greater] < order[rise]) {
                greater--;
            }
            swap(rise, greater);
            for (int low = rise + 1, high = size - 1; low < high; low++, high--) {
                swap(low, high);
            }
            return true;
        }

        private void swap(int i, int j) {
            int kept = order[i];
            order[i] = order[j];
            order[j] = kept;
        }
    }

    /** What one may be, by the notes. */
    private static final class Guess {
        private final Rope supposed = new Rope();

        int fittingStones(Scene scene, int climber) {
            suppose(scene);
            int bits = 0;
            for (int stone = 0; stone <= MOST_STONE; stone++) {
                supposed.stone[climber] = stone;
                if (allNotesAreSo(scene)) {
                    bits |= 1 << stone;
                }
            }
            return bits;
        }

        int fittingKinds(Scene scene, int climber) {
            suppose(scene);
            int bits = 0;
            for (int kind = PLAIN; kind <= LEADER; kind++) {
                supposed.kind[climber] = kind;
                if (allNotesAreSo(scene)) {
                    bits |= 1 << kind;
                }
            }
            return bits;
        }

        int tellingPitch(Scene scene, int climber) {
            int fitting = fittingStones(scene, climber);
            int all = Integer.bitCount(fitting);
            if (all == 0) {
                return NONE;
            }
            int first = 0;
            int least = all + 1;
            for (int p = 0; p < TOP; p++) {
                int saying = stonesSaying(scene, climber, fitting, p);
                int greater = Math.max(saying, all - saying);
                if (greater < least) {
                    least = greater;
                    first = p;
                }
            }
            return first;
        }

        private int stonesSaying(Scene scene, int climber, int fitting, int p) {
            int saying = 0;
            for (int stone = 0; stone <= MOST_STONE; stone++) {
                supposed.stone[climber] = stone;
                boolean fits = (fitting >> stone & 1) == 1;
                if (fits && supposed.sayer(scene.wall, p) == climber) {
                    saying++;
                }
            }
            return saying;
        }

        /** Notes are of when nobody sags. */
        private void suppose(Scene scene) {
            supposed.copyFrom(scene.rope);
            supposed.setSags(0);
        }

        private boolean allNotesAreSo(Scene scene) {
            for (int i = 0; i < scene.notes.size; i++) {
                if (supposed.sayer(scene.wall, scene.notes.pitch[i]) != scene.notes.climber[i]) {
                    return false;
                }
            }
            return true;
        }
    }
}
