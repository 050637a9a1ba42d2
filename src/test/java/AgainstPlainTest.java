/**
 * Long runs of calls, made by a fixed sequence of numbers, whose answers must be those of
 * PlainPatches: pictures with few or many greys, pasted and raised patches, all settings.
 */
public final class AgainstPlainTest {
    private static final int RUNS = 160;
    private static final int CALLS = 512;
    private static final int[] ODD = {-1, -2, 99, 100, 16, 17, Integer.MAX_VALUE, Integer.MIN_VALUE};
    private static final int[] LOW = {2, 1, 0, 0, 1, 2, 1, 0};
    private static final int[] HIGH = {4, 20, 1, 99, 15, 20, 99, 30};

    private final CopiedPatches tested = new CopiedPatches();
    private final PlainPatches plain = new PlainPatches();
    private final int run;
    private final int greys;
    private final int wrongInThousand;
    private long state;
    private int width = 16;
    private int height = 16;

    private AgainstPlainTest(int run) {
        this.run = run;
        this.state = 7919L * run + 17;
        int[] choices = {1, 2, 3, 5, 12, 99};
        greys = choices[below(choices.length)];
        wrongInThousand = run % 4 == 0 ? 60 : 4;
    }

    private int below(int bound) {
        state = state * 6364136223846793005L + 1442695040888963407L;
        return (int) ((state >>> 33) % bound);
    }

    /** A number from .. to, now and then one that is not as told. */
    private int number(int from, int to) {
        if (below(1000) < wrongInThousand) {
            return ODD[below(ODD.length)];
        }
        return from + below(Math.max(1, to - from + 1));
    }

    private int column() {
        return number(0, width - 1);
    }

    private int row() {
        return number(0, height - 1);
    }

    private void due(String call, int got, int want) {
        Due.is("run " + run + ": " + call, got, want);
    }

    private void go() {
        if (below(3) > 0) newPicture();
        for (int k = below(6); k > 0; k--) tune();
        if (below(3) > 0) sprinkle(below(width * height) / 2);
        for (int call = 0; call < CALLS / 4 && Due.wrongSoFar() < 20; call++) {
            if (below(5) < 2) change(); else ask();
        }
        everyAnswer();
    }

    private void newPicture() {
        int w = number(1, 16);
        int h = number(1, 16);
        due("picture(" + w + ", " + h + ")", tested.picture(w, h), plain.picture(w, h));
        if (w >= 1 && w <= 16 && h >= 1 && h <= 16) {
            width = w;
            height = h;
        }
    }

    private void sprinkle(int dots) {
        for (int k = 0; k < dots; k++) dot();
    }

    private void dot() {
        int x = column();
        int y = row();
        int v = number(0, greys);
        due("dot(" + x + ", " + y + ", " + v + ")", tested.dot(x, y, v), plain.dot(x, y, v));
    }

    private void tune() {
        int which = number(0, 7);
        int v = which >= 0 && which <= 7 ? number(LOW[which], HIGH[which]) : 1;
        if (which >= 3 && which <= 7 && below(3) > 0) v = number(LOW[which], LOW[which] + 4);
        due("tune(" + which + ", " + v + ")", tested.tune(which, v), plain.tune(which, v));
    }

    private void change() {
        int kind = below(40);
        if (kind == 0) {
            newPicture();
            sprinkle(20);
        } else if (kind < 16) {
            dot();
        } else if (kind < 22) {
            tune();
        } else if (kind < 29) {
            int x = column(), y = row(), w = number(1, width - x), h = number(1, height - y);
            int v = number(-9, 9);
            due("raise(" + x + ", " + y + ", " + w + ", " + h + ", " + v + ")",
                    tested.raise(x, y, w, h, v), plain.raise(x, y, w, h, v));
        } else {
            int x = column(), y = row(), toX = column(), toY = row();
            int w = number(1, width - Math.max(x, toX)), h = number(1, height - Math.max(y, toY));
            due("paste(" + x + ", " + y + ", " + w + ", " + h + ", " + toX + ", " + toY + ")",
                    tested.paste(x, y, w, h, toX, toY), plain.paste(x, y, w, h, toX, toY));
        }
    }

    private void ask() {
        int x = column(), y = row();
        int k = number(0, 9), what = number(0, 7);
        switch (below(13)) {
            case 0: due("at", tested.at(x, y), plain.at(x, y)); break;
            case 1: due("mark", tested.mark(x, y), plain.mark(x, y)); break;
            case 2: askSquare(x, y, number(0, 5)); break;
            case 3: askSquare(x, y, number(6, 26)); break;
            case 4: k = number(0, 224); due("inOrder", tested.inOrder(k), plain.inOrder(k)); break;
            case 5: askPair(number(0, 40), number(0, 1)); break;
            case 6: askVotes(number(-15, 15), number(0, 15)); break;
            case 7: askShift(k, number(0, 3)); break;
            case 8: askFinding(k, number(0, 9)); break;
            case 9: due("holds", tested.holds(k, x, y), plain.holds(k, x, y)); break;
            case 10: due("seen", tested.seen(y, what % 3), plain.seen(y, what % 3)); break;
            case 11: askWould(number(0, 7), what); break;
            default: askMany(what); break;
        }
    }

    private void askSquare(int x, int y, int what) {
        due("square(" + x + ", " + y + ", " + what + ")",
                tested.square(x, y, what), plain.square(x, y, what));
    }

    private void askPair(int k, int what) {
        due("pair(" + k + ", " + what + ")", tested.pair(k, what), plain.pair(k, what));
    }

    private void askVotes(int dx, int dy) {
        due("votes(" + dx + ", " + dy + ")", tested.votes(dx, dy), plain.votes(dx, dy));
    }

    private void askShift(int k, int what) {
        due("shift(" + k + ", " + what + ")", tested.shift(k, what), plain.shift(k, what));
    }

    private void askFinding(int k, int what) {
        due("finding(" + k + ", " + what + ")", tested.finding(k, what), plain.finding(k, what));
    }

    private void askWould(int which, int what) {
        int v = which >= 0 && which <= 7 ? number(LOW[which], HIGH[which]) : 1;
        due("would(" + which + ", " + v + ", " + what + ")",
                tested.would(which, v, what), plain.would(which, v, what));
    }

    private void askMany(int what) {
        due("many(" + what + ")", tested.many(what), plain.many(what));
    }

    /** Once a run everything that can be asked, but that findings and pairs are looked at in part. */
    private void everyAnswer() {
        for (int what = -1; what <= 8; what++) askMany(what);
        for (int k = -1; k <= 8; k++) for (int what = -1; what <= 4; what++) askShift(k, what);
        for (int k = -1; k <= 24; k++) for (int what = -1; what <= 10; what++) askFinding(k, what);
        for (int k = -1; k <= 30; k++) for (int what = -1; what <= 2; what++) askPair(k, what);
        for (int y = -1; y <= 16; y++) {
            for (int how = -1; how <= 3; how++) due("seen", tested.seen(y, how), plain.seen(y, how));
        }
        for (int x = -1; x <= 16; x++) {
            for (int y = -1; y <= 16; y += 3) {
                due("holds", tested.holds(0, x, y), plain.holds(0, x, y));
                due("mark", tested.mark(x, y), plain.mark(x, y));
                askSquare(x, y, 4);
            }
        }
    }

    public static void main(String[] args) {
        for (int run = 0; run < RUNS && Due.wrongSoFar() < 20; run++) {
            new AgainstPlainTest(run).go();
        }
        Due.end();
    }
}
