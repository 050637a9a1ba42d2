/**
 * Runs of calls, made by a fixed sequence of numbers, whose answers must be those of PlainPatches.
 * Twice in a run everything is asked of new objects that are brought to the same state, which also
 * shows that answers come of the state alone. No object is called more than 512 times.
 */
public final class AgainstPlainTest {
    private static final int RUNS = 150;
    private static final int MOST_CALLS = 512;
    private static final int[] ODD = {-1, -2, 99, 100, 16, 17, Integer.MAX_VALUE, Integer.MIN_VALUE};
    private static final int[] LOW = {2, 1, 0, 0, 1, 2, 1, 0};
    private static final int[] HIGH = {4, 20, 1, 99, 15, 20, 99, 30};
    private static final int ANYTHING = 0, NOISE = 1, LIFTED = 2, STEPS = 3, COPIES = 4;

    private final PlainPatches plain = new PlainPatches();
    private final int run;
    private final int manner;
    private CopiedPatches tested = new CopiedPatches();
    private int calls = 0;
    private int greys;
    private long state;
    private int width = 16;
    private int height = 16;

    private AgainstPlainTest(int run) {
        this.run = run;
        this.manner = run % 5;
        this.state = 7919L * run + 17;
    }

    private int below(int bound) {
        state = state * 6364136223846793005L + 1442695040888963407L;
        return (int) ((state >>> 33) % bound);
    }

    private int between(int from, int to) {
        return from + below(Math.max(1, to - from + 1));
    }

    /** A number from .. to, now and then one that is not as told. */
    private int number(int from, int to) {
        boolean isOdd = below(1000) < (manner == ANYTHING ? 50 : 5);
        return isOdd ? ODD[below(ODD.length)] : between(from, to);
    }

    private int column() {
        return number(0, width - 1);
    }

    private int row() {
        return number(0, height - 1);
    }

    private void due(String call, int got, int want) {
        calls++;
        Due.is("run " + run + ": " + call, got, want);
    }

    private void go() {
        prepare();
        askEverything();
        int changes = between(10, 40);
        for (int k = 0; k < changes && calls < MOST_CALLS - 40; k++) {
            change();
            for (int asked = below(4); asked >= 0; asked--) ask();
        }
        Due.isTrue("run " + run + " keeps to the calls of an object", calls <= MOST_CALLS);
        askEverything();
    }

    /** Each manner leads to states that calls of any kind would hardly ever reach. */
    private void prepare() {
        switch (manner) {
            case NOISE:
                newPicture(between(11, 16), between(11, 16));
                settings(2, 1, below(2), 0, between(1, 4), between(10, 20), between(1, 3), 0);
                greys = between(1, 2);
                sprinkle(220);
                break;
            case LIFTED:
                newPicture(between(9, 16), between(9, 16));
                settings(between(2, 3), between(1, 3), 1, between(0, 4), 2, 12, 1, between(0, 9));
                greys = 60;
                sprinkle(90);
                copies(3, true);
                break;
            case STEPS:
                newPicture(between(9, 16), between(9, 16));
                settings(between(2, 4), between(12, 20), below(2), between(0, 30),
                        between(1, 5), between(4, 20), 1, between(0, 30));
                greys = between(20, 40);
                sprinkle(200);
                break;
            case COPIES:
                newPicture(between(12, 16), between(12, 16));
                settings(between(2, 4), 1, 0, 0, between(1, 5), 8, between(1, 4), between(0, 5));
                greys = 99;
                sprinkle(110);
                copies(4, false);
                break;
            default:
                greys = new int[] {1, 2, 3, 5, 12, 99}[below(6)];
                if (below(2) == 0) newPicture(number(1, 16), number(1, 16));
                for (int k = below(6); k > 0; k--) tune();
                sprinkle(below(100));
                break;
        }
    }

    private void settings(int... values) {
        for (int which = 0; which < 8; which++) setTo(which, values[which]);
    }

    private void setTo(int which, int v) {
        due("tune(" + which + ", " + v + ")", tested.tune(which, v), plain.tune(which, v));
    }

    private void newPicture(int w, int h) {
        due("picture(" + w + ", " + h + ")", tested.picture(w, h), plain.picture(w, h));
        if (w >= 1 && w <= 16 && h >= 1 && h <= 16) {
            width = w;
            height = h;
        }
    }

    private void sprinkle(int dots) {
        for (int k = 0; k < dots; k++) dot();
    }

    private void dot() {
        int x = column(), y = row(), v = number(0, greys);
        due("dot(" + x + ", " + y + ", " + v + ")", tested.dot(x, y, v), plain.dot(x, y, v));
    }

    private void copies(int count, boolean areLifted) {
        for (int k = 0; k < count; k++) {
            int x = below(width), y = below(height), toX = below(width), toY = below(height);
            int w = between(1, Math.min(8, width - Math.max(x, toX)));
            int h = between(1, Math.min(8, height - Math.max(y, toY)));
            paste(x, y, w, h, toX, toY);
            if (areLifted) raise(toX, toY, w, h, between(-20, 20));
        }
    }

    private void raise(int x, int y, int w, int h, int v) {
        due("raise(" + x + ", " + y + ", " + w + ", " + h + ", " + v + ")",
                tested.raise(x, y, w, h, v), plain.raise(x, y, w, h, v));
    }

    private void paste(int x, int y, int w, int h, int toX, int toY) {
        due("paste(" + x + ", " + y + ", " + w + ", " + h + ", " + toX + ", " + toY + ")",
                tested.paste(x, y, w, h, toX, toY), plain.paste(x, y, w, h, toX, toY));
    }

    private void tune() {
        int which = number(0, 7);
        setTo(which, settingFor(which));
    }

    private int settingFor(int which) {
        if (which < 0 || which > 7) return 1;
        return which > 2 && below(4) > 0 ? number(LOW[which], LOW[which] + 5)
                : number(LOW[which], HIGH[which]);
    }

    private void change() {
        int kind = below(40);
        if (kind == 0 && manner == ANYTHING) {
            newPicture(number(1, 16), number(1, 16));
            sprinkle(20);
        } else if (kind < 20) {
            dot();
        } else if (kind < 25) {
            tune();
        } else if (kind < 32) {
            int x = column(), y = row();
            raise(x, y, number(1, Math.min(5, width - x)), number(1, height - y), number(-9, 9));
        } else {
            int x = column(), y = row(), toX = column(), toY = row();
            paste(x, y, number(1, width - Math.max(x, toX)), number(1, height - Math.max(y, toY)),
                    toX, toY);
        }
    }

    private void ask() {
        int x = column(), y = row();
        int k = number(0, 9), what = number(0, 7);
        switch (below(13)) {
            case 0: askAt(x, y); break;
            case 1: askMark(x, y); break;
            case 2: askSquare(x, y, number(0, 5)); break;
            case 3: askSquare(x, y, number(6, 26)); break;
            case 4: askInOrder(number(0, 224)); break;
            case 5: askPair(number(0, 40), number(0, 1)); break;
            case 6: askVotes(number(-15, 15), number(0, 15)); break;
            case 7: askShift(k, number(0, 3)); break;
            case 8: askFinding(k, number(0, 9)); break;
            case 9: askHolds(k, x, y); break;
            case 10: askSeen(y, number(0, 2)); break;
            case 11: int which = number(0, 7); askWould(which, settingFor(which), what); break;
            default: askMany(what); break;
        }
    }

    private void askAt(int x, int y) {
        due("at(" + x + ", " + y + ")", tested.at(x, y), plain.at(x, y));
    }

    private void askMark(int x, int y) {
        due("mark(" + x + ", " + y + ")", tested.mark(x, y), plain.mark(x, y));
    }

    private void askSquare(int x, int y, int what) {
        due("square(" + x + ", " + y + ", " + what + ")",
                tested.square(x, y, what), plain.square(x, y, what));
    }

    private void askInOrder(int k) {
        due("inOrder(" + k + ")", tested.inOrder(k), plain.inOrder(k));
    }

    private void askPair(int k, int what) {
        due("pair(" + k + ", " + what + ")", tested.pair(k, what), plain.pair(k, what));
    }

    private void askVotes(int dx, int dy) {
        due("votes(" + dx + ", " + dy + ")", tested.votes(dx, dy), plain.votes(dx, dy));
    }

    private void askShift(int k, int what) {
        due("shift(" + k + ", " + what + ")", tested.shift(k, what), plain.shift(k, what));
    }

    private void askFinding(int k, int what) {
        due("finding(" + k + ", " + what + ")", tested.finding(k, what), plain.finding(k, what));
    }

    private void askHolds(int k, int x, int y) {
        due("holds(" + k + ", " + x + ", " + y + ")", tested.holds(k, x, y), plain.holds(k, x, y));
    }

    private void askSeen(int y, int how) {
        due("seen(" + y + ", " + how + ")", tested.seen(y, how), plain.seen(y, how));
    }

    private void askWould(int which, int v, int what) {
        due("would(" + which + ", " + v + ", " + what + ")",
                tested.would(which, v, what), plain.would(which, v, what));
    }

    private void askMany(int what) {
        due("many(" + what + ")", tested.many(what), plain.many(what));
    }

    /** A new object in the same state, some 265 calls old at most. */
    private void renew() {
        tested = new CopiedPatches();
        calls = 0;
        tested.picture(width, height);
        for (int which = 0; which < 8; which++) {
            int v = plain.tune(which, LOW[which]);
            plain.tune(which, v);
            tested.tune(which, v);
        }
        for (int place = 0; place < 256; place++) {
            int grey = plain.at(place % 16, place / 16);
            if (grey > 0) tested.dot(place % 16, place / 16, grey);
        }
    }

    private void askEverything() {
        CopiedPatches own = tested;
        int ownCalls = calls;
        askNewObjects();
        tested = own;
        calls = ownCalls;
    }

    private void askNewObjects() {
        renew();
        for (int k = 0; k <= 24; k++) for (int what = 0; what <= 9; what++) askFinding(k, what);
        renew();
        for (int what = -1; what <= 8; what++) askMany(what);
        for (int k = -1; k <= 8; k++) for (int what = -1; what <= 4; what++) askShift(k, what);
        for (int y = -1; y <= 16; y++) for (int how = -1; how <= 3; how++) askSeen(y, how);
        for (int what = -1; what <= 10; what++) askFinding(0, what);
        renew();
        for (int k = -1; k <= 225; k++) askInOrder(k);
        renew();
        int pairs = plain.many(4);
        for (int k = 0; k < 100; k++) {
            int which = pairs > 0 ? below(pairs) : k;
            askPair(which, 0);
            askPair(which, 1);
        }
        for (int what = -1; what <= 2; what++) askPair(pairs, what);
        renew();
        for (int k = 0; k < 240; k++) askHolds(below(25), below(16), below(16));
        renew();
        for (int k = 0; k < 40; k++) {
            int x = below(16), y = below(16);
            for (int what = 0; what <= 5; what++) askSquare(x, y, what);
        }
        renew();
        for (int k = 0; k < 120; k++) askVotes(between(-15, 15), between(0, 15));
        for (int k = 0; k < 30; k++) askMark(below(16), below(16));
        for (int what = 6; what <= 26; what++) askSquare(0, 0, what);
    }

    public static void main(String[] args) {
        for (int run = 0; run < RUNS && Due.wrongSoFar() < 20; run++) {
            new AgainstPlainTest(run).go();
        }
        Due.end();
    }
}
