import java.util.ArrayList;
import java.util.List;

/**
 * Every refused call of promises 2 to 18: that it answers as its line tells, UNKNOWN ahead of OUTSIDE,
 * and that it changes nothing, be the picture just made or already asked of.
 */
public final class RefusalsTest extends ByDocument {
    private static final String REFUSALS = "REFUSALS, in the order in which a call's line tells them:"
            + " UNKNOWN (there is no such place, SQUARE, PAIR, SHIFT, FINDING), OUTSIDE (a number is not"
            + " as told); they change nothing.";
    private static final int W = 9, H = 7;
    private static final int LAST_COLUMN = W - 1, LAST_ROW = H - 1;
    private static final List<Integer> AS_GIVEN = everythingOf(given());

    private interface Call {
        int on(CopiedPatches x);
    }

    private RefusalsTest() {
    }

    /** Copies, one of them raised, and no setting as it was at first. */
    private static CopiedPatches given() {
        CopiedPatches x = textured(W, H);
        x.paste(0, 0, 4, 3, 5, 0);
        x.raise(5, 0, 4, 3, 2);
        x.paste(0, 4, 3, 3, 5, 4);
        int[] settings = {2, 2, RAISED, 1, 2, 7, 2, 1};
        for (int which = 0; which < 8; which++) x.tune(which, settings[which]);
        return x;
    }

    /** All that can be asked in some 380 calls, the settings at last, for to ask them is to change them. */
    private static List<Integer> everythingOf(CopiedPatches x) {
        List<Integer> all = new ArrayList<>();
        for (int place = 0; place < W * H; place++) {
            int column = place % W, row = place / W;
            all.add(x.at(column, row));
            all.add(x.holds(place % 2, column, row));
            all.add(place % 2 == 0 ? x.mark(column, row) : x.square(column, row, place % 6));
        }
        all.add(x.at(W, 0));
        all.add(x.at(0, H));
        for (int what = 0; what < 8; what++) all.add(x.many(what));
        for (int k = 0; k < x.many(0); k += 2) all.add(x.inOrder(k));
        for (int k = 0; k < x.many(4); k++) all.add(x.pair(k, k % 2));
        for (int what = 0; what < 4; what++) all.add(x.shift(0, what));
        for (int what = 0; what < 20; what++) all.add(x.finding(what / 10, what % 10));
        for (int row = 0; row < H; row++) all.add(x.seen(row, row % 3));
        for (int which = 0; which < 8; which++) all.add(x.would(which, HIGH[which], which));
        for (int which = 0; which < 8; which++) all.add(x.tune(which, LOW[which]));
        return all;
    }

    private static void refused(String call, int answer, Call refused) {
        CopiedPatches justMade = given();
        due(call, refused.on(justMade), answer);
        due(call + ", changes of what is just made", changesIn(justMade), 0);
        CopiedPatches asked = given();
        asked.many(7);
        due(call + ", asked before", refused.on(asked), answer);
        due(call + ", changes of what was asked before", changesIn(asked), 0);
    }

    private static int changesIn(CopiedPatches x) {
        List<Integer> now = everythingOf(x);
        int changes = Math.abs(now.size() - AS_GIVEN.size());
        for (int i = 0; i < Math.min(now.size(), AS_GIVEN.size()); i++) {
            changes += now.get(i).equals(AS_GIVEN.get(i)) ? 0 : 1;
        }
        return changes;
    }

    /** Without findings and pairs it would show little that they stay. */
    private static void givenHasAll() {
        by(18, "How many:");
        CopiedPatches x = given();
        due("pairs", x.many(4), 6 + 4);
        due("shifts", x.many(5), 1);
        due("findings", x.many(6), 2);
        due("changes without a refused call", changesIn(given()), 0);
        x = given();
        x.dot(0, 0, 1);
        due("changes are seen", changesIn(x) > 0 ? 1 : 0, 1);
        x = given();
        x.tune(LEAST, 3);
        due("changes of a setting are seen", changesIn(x) > 0 ? 1 : 0, 1);
    }

    private static void picture() {
        by(2, REFUSALS);
        for (int wrong : justOutside(1, 16)) {
            refused("picture(" + wrong + ", 7)", OUTSIDE, x -> x.picture(wrong, H));
            refused("picture(9, " + wrong + ")", OUTSIDE, x -> x.picture(W, wrong));
            refused("picture, both " + wrong, OUTSIDE, x -> x.picture(wrong, wrong));
        }
    }

    private static void dotAndAt() {
        by(3, REFUSALS);
        for (int v : justOutside(0, 99)) {
            refused("dot to " + v, OUTSIDE, x -> x.dot(LAST_COLUMN, LAST_ROW, v));
            refused("dot at no place to " + v, UNKNOWN, x -> x.dot(W, LAST_ROW, v));
        }
        for (int column : justOutside(0, LAST_COLUMN)) {
            refused("dot, column " + column, UNKNOWN, x -> x.dot(column, 0, 50));
        }
        for (int row : justOutside(0, LAST_ROW)) refused("dot, row " + row, UNKNOWN, x -> x.dot(0, row, 50));
        by(4, REFUSALS);
        for (int column : justOutside(0, LAST_COLUMN)) {
            refused("at, column " + column, UNKNOWN, x -> x.at(column, 0));
        }
        for (int row : justOutside(0, LAST_ROW)) refused("at, row " + row, UNKNOWN, x -> x.at(0, row));
    }

    private static void raise() {
        by(5, REFUSALS);
        for (int w : justOutside(1, W - 2)) refused("w " + w, OUTSIDE, x -> x.raise(2, 3, w, 1, 5));
        for (int h : justOutside(1, H - 3)) refused("h " + h, OUTSIDE, x -> x.raise(2, 3, 1, h, 5));
        for (int v : justOutside(-99, 99)) refused("v " + v, OUTSIDE, x -> x.raise(2, 3, 4, 3, v));
        for (int column : justOutside(0, LAST_COLUMN)) {
            refused("column " + column, UNKNOWN, x -> x.raise(column, 0, 1, 1, 5));
            refused("all wrong", UNKNOWN, x -> x.raise(column, 0, 0, 0, 100));
        }
        for (int row : justOutside(0, LAST_ROW)) {
            refused("row " + row, UNKNOWN, x -> x.raise(0, row, 1, 1, 5));
            refused("all wrong", UNKNOWN, x -> x.raise(0, row, W + 1, H + 1, -100));
        }
    }

    private static void paste() {
        by(6, REFUSALS);
        for (int w : justOutside(1, W - 2)) {
            refused("w " + w, OUTSIDE, x -> x.paste(2, 3, w, 1, 0, 0));
            refused("w " + w + " to there", OUTSIDE, x -> x.paste(0, 0, w, 1, 2, 3));
        }
        for (int h : justOutside(1, H - 3)) {
            refused("h " + h, OUTSIDE, x -> x.paste(2, 3, 1, h, 0, 0));
            refused("h " + h + " to there", OUTSIDE, x -> x.paste(0, 0, 1, h, 2, 3));
        }
        for (int column : justOutside(0, LAST_COLUMN)) {
            refused("from column " + column, UNKNOWN, x -> x.paste(column, 0, 1, 1, 3, 3));
            refused("to column " + column, UNKNOWN, x -> x.paste(3, 3, 1, 1, column, 0));
            refused("to column " + column + ", w 0", UNKNOWN, x -> x.paste(3, 3, 0, 1, column, 0));
        }
        for (int row : justOutside(0, LAST_ROW)) {
            refused("from row " + row, UNKNOWN, x -> x.paste(0, row, 1, 1, 3, 3));
            refused("to row " + row, UNKNOWN, x -> x.paste(3, 3, 1, 1, 0, row));
            refused("from row " + row + ", h 0", UNKNOWN, x -> x.paste(0, row, 1, 0, 3, 3));
        }
    }

    private static void tuneAndWould() {
        for (int which = 0; which < 8; which++) {
            int setting = which;
            for (int v : justOutside(LOW[which], HIGH[which])) {
                by(7, REFUSALS);
                refused("tune(" + which + ", " + v + ")", OUTSIDE, x -> x.tune(setting, v));
                by(17, REFUSALS);
                refused("would(" + which + ", " + v + ", 7)", OUTSIDE, x -> x.would(setting, v, 7));
            }
            for (int what : justOutside(0, 7)) {
                refused("would, what " + what, OUTSIDE, x -> x.would(setting, HIGH[setting], what));
            }
        }
        for (int which : justOutside(0, 7)) {
            by(7, REFUSALS);
            refused("tune(" + which + ", 2)", OUTSIDE, x -> x.tune(which, 2));
            by(17, REFUSALS);
            refused("would(" + which + ", 2, 7)", OUTSIDE, x -> x.would(which, 2, 7));
        }
        by(17, "(nothing is changed)");
        for (int which = 0; which < 8; which++) {
            CopiedPatches x = given();
            for (int what = 0; what < 8; what++) x.would(which, HIGH[which], what);
            x.would(which, LOW[which], 7);
            due("changes by would of setting " + which, changesIn(x), 0);
        }
    }

    private static void squares() {
        by(8, REFUSALS);
        for (int column : justOutside(0, W - 2)) refused("mark", 0, x -> x.mark(column, 0));
        for (int row : justOutside(0, H - 2)) refused("mark", 0, x -> x.mark(0, row));
        by(9, REFUSALS);
        for (int column : justOutside(0, W - 2)) {
            refused("column " + column, UNKNOWN, x -> x.square(column, 0, 0));
            refused("column " + column + ", what 26", UNKNOWN, x -> x.square(column, 0, 26));
        }
        for (int row : justOutside(0, H - 2)) {
            refused("row " + row, UNKNOWN, x -> x.square(0, row, 0));
            refused("row " + row + ", what 6", UNKNOWN, x -> x.square(0, row, 6));
        }
        for (int what : new int[] {-1, 6, 9, 26, LOWEST, HIGHEST}) {
            refused("what " + what, OUTSIDE, x -> x.square(0, 0, what));
        }
        by(10, REFUSALS);
        for (int k : justOutside(0, 8 * 6 - 1)) refused("inOrder(" + k + ")", UNKNOWN, x -> x.inOrder(k));
    }

    private static void pairsAndShifts() {
        by(11, REFUSALS);
        for (int k : justOutside(0, 9)) {
            refused("pair(" + k + ", 1)", UNKNOWN, x -> x.pair(k, 1));
            refused("pair(" + k + ", 2)", UNKNOWN, x -> x.pair(k, 2));
        }
        for (int what : justOutside(0, 1)) refused("pair(9, " + what + ")", OUTSIDE, x -> x.pair(9, what));
        by(12, REFUSALS);
        for (int dx : justOutside(-15, 15)) refused("votes(" + dx + ", 0)", OUTSIDE, x -> x.votes(dx, 0));
        for (int dy : justOutside(0, 15)) refused("votes(5, " + dy + ")", OUTSIDE, x -> x.votes(5, dy));
        by(13, REFUSALS);
        for (int k : justOutside(0, 0)) {
            refused("shift(" + k + ", 3)", UNKNOWN, x -> x.shift(k, 3));
            refused("shift(" + k + ", 4)", UNKNOWN, x -> x.shift(k, 4));
        }
        for (int what : justOutside(0, 3)) refused("shift(0, " + what + ")", OUTSIDE, x -> x.shift(0, what));
    }

    private static void findings() {
        by(14, REFUSALS);
        for (int k : justOutside(0, 1)) {
            refused("finding(" + k + ", 9)", UNKNOWN, x -> x.finding(k, 9));
            refused("finding(" + k + ", 10)", UNKNOWN, x -> x.finding(k, 10));
        }
        for (int what : justOutside(0, 9)) refused("finding(1, " + what + ")", OUTSIDE, x -> x.finding(1, what));
        by(15, REFUSALS);
        for (int k : justOutside(0, 1)) {
            refused("holds(" + k + ", 0, 0)", UNKNOWN, x -> x.holds(k, 0, 0));
            refused("holds(" + k + ", -1, -1)", UNKNOWN, x -> x.holds(k, -1, -1));
        }
        for (int column : justOutside(0, LAST_COLUMN)) refused("holds", UNKNOWN, x -> x.holds(1, column, 0));
        for (int row : justOutside(0, LAST_ROW)) refused("holds", UNKNOWN, x -> x.holds(1, 0, row));
        by(16, REFUSALS);
        for (int row : justOutside(0, LAST_ROW)) {
            refused("seen(" + row + ", 2)", UNKNOWN, x -> x.seen(row, 2));
            refused("seen(" + row + ", 3)", UNKNOWN, x -> x.seen(row, 3));
        }
        for (int how : justOutside(0, 2)) refused("seen(6, " + how + ")", OUTSIDE, x -> x.seen(LAST_ROW, how));
        by(18, REFUSALS);
        for (int what : justOutside(0, 7)) refused("many(" + what + ")", OUTSIDE, x -> x.many(what));
    }

    public static void main(String[] args) {
        givenHasAll();
        picture();
        dotAndAt();
        raise();
        paste();
        tuneAndWould();
        squares();
        pairsAndShifts();
        findings();
        endOfQuote();
        Due.end();
    }
}
