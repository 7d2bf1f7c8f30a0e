/**
 * The document's face, with its calls counted: an object is used for at most 512 calls, and what later ones
 * answer is free, so no test may look at it.
 */
final class Counted {
    static final int MOST = 512;

    private final RopeLaw x = new RopeLaw();
    private int calls = 0;

    int left() {
        return MOST - calls;
    }

    private RopeLaw next() {
        calls++;
        if (calls > MOST) {
            throw new IllegalStateException("the test uses an object for more than 512 calls");
        }
        return x;
    }

    int wall() {
        return next().wall();
    }

    int pitch(int p, int hard, int left, int right) {
        return next().pitch(p, hard, left, right);
    }

    int ice(int p, int is) {
        return next().ice(p, is);
    }

    int climber(int kind, int weight, int stone, int wishes) {
        return next().climber(kind, weight, stone, wishes);
    }

    int type(int c) {
        return next().type(c);
    }

    int clear() {
        return next().clear();
    }

    int read() {
        return next().read();
    }

    int sag(int climber, int is) {
        return next().sag(climber, is);
    }

    int rest(int climber, int is) {
        return next().rest(climber, is);
    }

    int go() {
        return next().go();
    }

    int undo() {
        return next().undo();
    }

    int of(int climber, int what) {
        return next().of(climber, what);
    }

    int hangs(int climber, int p) {
        return next().hangs(climber, p);
    }

    int says(int p) {
        return next().says(p);
    }

    int path(int i) {
        return next().path(i);
    }

    int by(int p, int what) {
        return next().by(p, what);
    }

    int canSay(int p) {
        return next().canSay(p);
    }

    int mine(int climber) {
        return next().mine(climber);
    }

    int tied(int climber, int i) {
        return next().tied(climber, i);
    }

    int cut(int i, int what) {
        return next().cut(i, what);
    }

    int rests(int a, int b) {
        return next().rests(a, b);
    }

    int note(int p, int climber) {
        return next().note(p, climber);
    }

    int forget() {
        return next().forget();
    }

    int stones(int climber) {
        return next().stones(climber);
    }

    int is(int climber) {
        return next().is(climber);
    }

    int look(int climber) {
        return next().look(climber);
    }

    int slips(int climber, int c) {
        return next().slips(climber, c);
    }

    int walls(int seed, int n, int p) {
        return next().walls(seed, n, p);
    }

    long part(int what) {
        return next().part(what);
    }

    int image(int i) {
        return next().image(i);
    }

    int from(int i) {
        return next().from(i);
    }

    int status(int what) {
        return next().status(what);
    }

    int count(int what) {
        return next().count(what);
    }

    long digest() {
        return next().digest();
    }
}
