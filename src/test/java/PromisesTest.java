/** For each promise of the document: ordinary calls, the edges that it names, and wrong numbers. */
public final class PromisesTest extends ByDocument {
    private PromisesTest() {
    }

    private static void newObject() {
        by(1, "All GREYS 0, SETTINGS as told.");
        CopiedPatches x = new CopiedPatches();
        for (int place = 0; place < 256; place++) due("at", x.at(place % 16, place / 16), 0);
        due("at(16, 0)", x.at(16, 0), UNKNOWN);
        due("at(0, 16)", x.at(0, 16), UNKNOWN);
        due("many(0)", x.many(0), 14 * 14);
        for (int which = 0; which < 8; which++) {
            due("tune, setting " + which, x.tune(which, LOW[which]), AT_FIRST[which]);
        }
        due("UNKNOWN", CopiedPatches.UNKNOWN, UNKNOWN);
        due("OUTSIDE", CopiedPatches.OUTSIDE, OUTSIDE);
        due("NONE", CopiedPatches.NONE, NONE);
        CopiedPatches another = new CopiedPatches();
        another.dot(0, 0, 5);
        due("at of an object beside a changed one", x.at(0, 0), 0);
    }

    private static void picture() {
        by(2, "A new PICTURE of w columns and h rows, all GREYS 0 (SETTINGS stay): how many places it has.");
        CopiedPatches x = new CopiedPatches();
        x.raise(0, 0, 16, 16, 7);
        x.tune(SIDE, 2);
        due("many(3)", x.many(3), 1);
        due("picture(5, 4)", x.picture(5, 4), 20);
        for (int place = 0; place < 20; place++) due("at", x.at(place % 5, place / 5), 0);
        due("at(5, 0)", x.at(5, 0), UNKNOWN);
        due("at(0, 4)", x.at(0, 4), UNKNOWN);
        due("many(0), SIDE stays 2", x.many(0), 4 * 3);
        x.dot(4, 3, 8);
        due("picture(1, 1)", x.picture(1, 1), 1);
        due("many(0) without a square", x.many(0), 0);
        for (int what = 1; what <= 7; what++) due("many(" + what + ")", x.many(what), 0);
        due("picture(16, 16)", x.picture(16, 16), 256);
        due("at(4, 3) after a smaller one", x.at(4, 3), 0);
        x.dot(2, 1, 6);
        int[][] wrong = {{0, 3}, {3, 0}, {17, 3}, {3, 17}, {-1, -1}, {LOWEST, 2}, {2, HIGHEST}};
        for (int[] w : wrong) due("picture, wrong", x.picture(w[0], w[1]), OUTSIDE);
        due("at(2, 1), as nothing was changed", x.at(2, 1), 6);
        due("at(15, 15), as nothing was changed", x.at(15, 15), 0);
    }

    private static void dotAndAt() {
        by(3, "The GREY at a place becomes v: what it was.");
        CopiedPatches x = new CopiedPatches();
        x.picture(6, 5);
        due("dot(5, 4, 99)", x.dot(5, 4, 99), 0);
        due("dot(5, 4, 0)", x.dot(5, 4, 0), 99);
        due("dot(2, 3, 41)", x.dot(2, 3, 41), 0);
        due("dot(2, 3, 42)", x.dot(2, 3, 42), 41);
        int[][] noPlace = {{6, 0}, {0, 5}, {-1, 0}, {0, -1}, {LOWEST, LOWEST}, {HIGHEST, 0}};
        for (int[] p : noPlace) {
            due("dot, no place", x.dot(p[0], p[1], 1), UNKNOWN);
            due("dot, no place, wrong grey, too", x.dot(p[0], p[1], 100), UNKNOWN);
        }
        due("dot(2, 3, -1)", x.dot(2, 3, -1), OUTSIDE);
        due("dot(2, 3, 100)", x.dot(2, 3, 100), OUTSIDE);
        due("dot(2, 3, HIGHEST)", x.dot(2, 3, HIGHEST), OUTSIDE);
        by(4, "The GREY at a place.");
        due("at(2, 3)", x.at(2, 3), 42);
        due("at(3, 2)", x.at(3, 2), 0);
        for (int[] p : noPlace) due("at, no place", x.at(p[0], p[1]), UNKNOWN);
    }

    private static void raise() {
        by(5, "All GREYS of w columns and h rows from a place on become v more");
        CopiedPatches x = new CopiedPatches();
        x.picture(6, 5);
        x.dot(0, 0, 95);
        x.dot(1, 0, 99);
        due("raise(0, 0, 2, 2, 10)", x.raise(0, 0, 2, 2, 10), 3);
        due("at(0, 0), 99 at most", x.at(0, 0), 99);
        due("at(1, 1)", x.at(1, 1), 10);
        due("at(2, 0), beside", x.at(2, 0), 0);
        due("at(0, 2), below", x.at(0, 2), 0);
        due("raise(1, 1, 5, 4, -12)", x.raise(1, 1, 5, 4, -12), 1);
        due("at(1, 1), 0 at least", x.at(1, 1), 0);
        due("raise by 0", x.raise(0, 0, 6, 5, 0), 0);
        due("raise by -99", x.raise(0, 0, 6, 5, -99), 3);
        due("raise by 99", x.raise(5, 4, 1, 1, 99), 1);
        due("at(5, 4)", x.at(5, 4), 99);
        due("raise, no place", x.raise(6, 0, 1, 1, 1), UNKNOWN);
        due("raise, no place, all wrong", x.raise(0, 5, 0, 9, 200), UNKNOWN);
        due("raise, no place below 0", x.raise(-1, 0, 1, 1, 1), UNKNOWN);
        int[][] wrong = {{0, 1, 1}, {1, 0, 1}, {5, 1, 1}, {1, 4, 1}, {1, 1, 100}, {1, 1, -100},
            {HIGHEST, 1, 1}, {1, HIGHEST, 1}, {LOWEST, 1, 1}, {-1, 1, 1}, {1, 1, LOWEST}};
        for (int[] w : wrong) due("raise, wrong", x.raise(2, 2, w[0], w[1], w[2]), OUTSIDE);
        due("at(2, 2), as nothing was changed", x.at(2, 2), 0);
        due("raise(2, 2, 4, 3, 1), up to the edges", x.raise(2, 2, 4, 3, 1), 11);
        due("many(3)", x.many(3) > 1 ? 1 : 0, 1);
        x.raise(0, 0, 6, 5, -99);
        due("many(3), squares are read anew", x.many(3), 1);
    }

    private static void paste() {
        by(6, "GREYS of w columns and h rows from a place on go to another place");
        CopiedPatches x = drawn(new int[] {1, 2, 3, 4, 5}, new int[] {6, 7, 8, 9, 10});
        due("paste(0, 0, 4, 1, 1, 0), over itself", x.paste(0, 0, 4, 1, 1, 0), 4);
        int[] shifted = {1, 1, 2, 3, 4};
        for (int i = 0; i < 5; i++) due("at(" + i + ", 0)", x.at(i, 0), shifted[i]);
        due("paste(1, 1, 4, 1, 0, 1), the other way", x.paste(1, 1, 4, 1, 0, 1), 4);
        int[] back = {7, 8, 9, 10, 10};
        for (int i = 0; i < 5; i++) due("at(" + i + ", 1)", x.at(i, 1), back[i]);
        due("paste to its own place", x.paste(0, 0, 5, 2, 0, 0), 0);
        due("paste, the same again", x.paste(0, 0, 1, 1, 1, 0), 0);
        due("paste(0, 0, 2, 2, 3, 0)", x.paste(0, 0, 2, 2, 3, 0), 4);
        due("at(4, 1)", x.at(4, 1), 8);
        due("paste, no place", x.paste(5, 0, 1, 1, 0, 0), UNKNOWN);
        due("paste, no other place", x.paste(0, 0, 1, 1, 0, 2), UNKNOWN);
        due("paste, no other place, wrong width", x.paste(0, 0, 0, 1, -1, 0), UNKNOWN);
        int[][] wrong = {{0, 1}, {1, 0}, {-1, 1}, {HIGHEST, 1}, {1, HIGHEST}, {LOWEST, 1}, {4, 1},
            {1, 3}};
        for (int[] w : wrong) due("paste, wrong", x.paste(0, 0, w[0], w[1], 2, 0), OUTSIDE);
        for (int[] w : wrong) due("paste, wrong", x.paste(2, 0, w[0], w[1], 0, 0), OUTSIDE);
        due("at(2, 0), as nothing was changed", x.at(2, 0), 2);
        CopiedPatches read = dotted(1, 5);
        due("many(4)", read.many(4), 2);
        read.paste(4, 0, 2, 2, 9, 0);
        due("many(4), squares are read anew", read.many(4), 6);
    }

    private static void tune() {
        by(7, "A SETTING becomes v: what it was.");
        CopiedPatches x = new CopiedPatches();
        for (int which = 0; which < 8; which++) {
            due("tune to the least", x.tune(which, LOW[which]), AT_FIRST[which]);
            due("tune to the greatest", x.tune(which, HIGH[which]), LOW[which]);
            due("tune too low", x.tune(which, LOW[which] - 1), OUTSIDE);
            due("tune too high", x.tune(which, HIGH[which] + 1), OUTSIDE);
            due("tune far too high", x.tune(which, HIGHEST), OUTSIDE);
            due("tune, as nothing was changed", x.tune(which, AT_FIRST[which]), HIGH[which]);
        }
        for (int which : new int[] {-1, 8, LOWEST, HIGHEST}) {
            due("tune, no such setting", x.tune(which, 2), OUTSIDE);
        }
    }

    private static void mark() {
        by(8, "MARK of the SQUARE at a place.");
        CopiedPatches x = drawn(new int[] {1, 20, 3}, new int[] {4, 5, 6}, new int[] {7, 8, 9});
        x.tune(SIDE, 2);
        due("mark(0, 0)", x.mark(0, 0), (((31 + 1) * 31 + 20) * 31 + 4) * 31 + 5);
        due("mark(1, 1)", x.mark(1, 1), (((31 + 5) * 31 + 6) * 31 + 8) * 31 + 9);
        x.tune(MANNER, 1);
        due("mark(0, 0), raised", x.mark(0, 0), (((31 + 0) * 31 + 19) * 31 + 3) * 31 + 4);
        x.tune(STEP, 3);
        due("mark(0, 0), raised, by 3", x.mark(0, 0), (((31 + 0) * 31 + 6) * 31 + 1) * 31 + 1);
        due("mark(2, 0), none", x.mark(2, 0), 0);
        due("mark(0, 2), none", x.mark(0, 2), 0);
        due("mark(-1, 0), none", x.mark(-1, 0), 0);
        due("mark(3, 3), no place", x.mark(3, 3), 0);
        due("mark(HIGHEST, LOWEST), no place", x.mark(HIGHEST, LOWEST), 0);
        x.picture(16, 16);
        x.tune(SIDE, 4);
        x.tune(MANNER, 0);
        x.tune(STEP, 1);
        x.raise(0, 0, 16, 16, 99);
        int wrapped = 1;
        for (int i = 0; i < 16; i++) wrapped = 31 * wrapped + 99;
        due("mark(12, 12), wraps", x.mark(12, 12), wrapped);
        due("mark(13, 12), none", x.mark(13, 12), 0);
    }

    private static void square() {
        by(9, "Of the SQUARE at a place:");
        CopiedPatches x = drawn(new int[] {30, 44, 30, 44, 31}, new int[] {52, 37, 52, 37, 52});
        x.tune(SIDE, 2);
        x.tune(STEP, 2);
        x.tune(REACH, 2);
        int[] wants = {30, 52, 0, 0, 2, 1};
        for (int what = 0; what <= 5; what++) due("square(0, 0, what)", x.square(0, 0, what), wants[what]);
        due("square(3, 0, 4), alike by STEP alone", x.square(3, 0, 4), 2);
        due("square(1, 0, 4)", x.square(1, 0, 4), 2);
        int[] numbers = {15, 22, 26, 18};
        for (int i = 0; i < 4; i++) due("NUMBER " + i, x.square(0, 0, 10 + i), numbers[i]);
        for (int what = 14; what <= 25; what++) due("no NUMBER", x.square(0, 0, what), NONE);
        x.tune(MANNER, 1);
        int[] raised = {0, 7, 11, 3};
        for (int i = 0; i < 4; i++) due("raised NUMBER " + i, x.square(0, 0, 10 + i), raised[i]);
        x.tune(FLATNESS, 21);
        due("FLAT: 31, 44, 52, 37 within 21", x.square(3, 0, 2), 1);
        due("FLAT: 30, 44, 52, 37 within 21", x.square(0, 0, 2), 0);
        due("in no pair with a flat one", x.square(1, 0, 5), 0);
        for (int what : new int[] {-1, 6, 7, 8, 9, 26, LOWEST, HIGHEST}) {
            due("square, wrong what", x.square(0, 0, what), OUTSIDE);
            due("square, none, wrong what, too", x.square(4, 0, what), UNKNOWN);
        }
        due("square(0, 1, 0), none", x.square(0, 1, 0), UNKNOWN);
        due("square(-1, 0, 0), none", x.square(-1, 0, 0), UNKNOWN);
        CopiedPatches crowd = dotted(1, 5, 9);
        crowd.tune(CROWD, 2);
        due("CROWDED", crowd.square(1, 0, 3), 1);
        due("a flat one is not CROWDED", crowd.square(2, 0, 3), 0);
        due("in no pair", crowd.square(1, 0, 5), 0);
        crowd.tune(CROWD, 3);
        due("not CROWDED by as many as CROWD", crowd.square(1, 0, 3), 0);
        due("in two pairs", crowd.square(5, 0, 5), 2);
        due("flat ones are ALIKE, too", crowd.square(2, 0, 4), 9);
        due("the first square, in two pairs", crowd.square(0, 0, 5), 2);
        crowd.dot(9, 0, 0);
        due("the first square, in one pair", crowd.square(0, 0, 5), 1);
        squareOfSixteen();
    }

    private static void squareOfSixteen() {
        CopiedPatches x = new CopiedPatches();
        x.tune(SIDE, 4);
        for (int i = 0; i < 16; i++) x.dot(12 + i % 4, 12 + i / 4, 99 - i);
        for (int i = 0; i < 16; i++) due("NUMBER " + i, x.square(12, 12, 10 + i), 99 - i);
        due("its least", x.square(12, 12, 0), 84);
        due("its greatest", x.square(12, 12, 1), 99);
        due("none beside it", x.square(13, 12, 0), UNKNOWN);
    }

    private static void inOrder() {
        by(10, "The number of the place of the k-th SQUARE in ORDER (from 0).");
        CopiedPatches x = drawn(new int[] {0, 0, 1, 0, 0, 1}, new int[] {0, 2, 0, 0, 2, 0});
        x.tune(SIDE, 2);
        int[] order = {0, 3, 1, 4, 2};
        due("0 0 0 2 has two", x.square(3, 0, 4), 2);
        for (int k = 0; k < order.length; k++) due("inOrder(" + k + ")", x.inOrder(k), order[k]);
        due("inOrder(5)", x.inOrder(5), UNKNOWN);
        due("inOrder(-1)", x.inOrder(-1), UNKNOWN);
        due("inOrder(HIGHEST)", x.inOrder(HIGHEST), UNKNOWN);
        CopiedPatches last = new CopiedPatches();
        last.picture(5, 4);
        last.tune(SIDE, 4);
        last.raise(0, 3, 4, 1, 7);
        last.dot(4, 3, 3);
        due("the sixteenth number is the one that differs", last.inOrder(0), 1);
        due("behind it", last.inOrder(1), 0);
        last.picture(1, 9);
        due("inOrder(0), no square", last.inOrder(0), UNKNOWN);
    }

    private static void pair() {
        by(11, "Of the k-th PAIR (from 0), by the first place's number, then the second's");
        CopiedPatches x = dotted(1, 5, 9);
        int[][] pairs = {{0, 4}, {0, 8}, {1, 5}, {1, 9}, {4, 8}, {5, 9}};
        for (int k = 0; k < pairs.length; k++) {
            due("pair(" + k + ", 0)", x.pair(k, 0), pairs[k][0]);
            due("pair(" + k + ", 1)", x.pair(k, 1), pairs[k][1]);
        }
        due("pair(6, 0)", x.pair(6, 0), UNKNOWN);
        due("pair(6, 7)", x.pair(6, 7), UNKNOWN);
        due("pair(-1, 0)", x.pair(-1, 0), UNKNOWN);
        due("pair(0, 2)", x.pair(0, 2), OUTSIDE);
        due("pair(0, -1)", x.pair(0, -1), OUTSIDE);
        x.tune(REACH, 4);
        due("many(4), REACH as far as they are", x.many(4), 6);
        x.tune(REACH, 5);
        due("pair(0, 1), by REACH", x.pair(0, 1), 8);
        due("pair(1, 0), by REACH", x.pair(1, 0), 1);
        due("many(4), by REACH", x.many(4), 2);
        CopiedPatches left = leftward();
        due("the first is the one above", left.pair(0, 0), 5);
        due("though the second is on its left", left.pair(0, 1), 16 * 4);
        left.tune(REACH, 5);
        due("many(4), dx -5 and dy 4, REACH 5", left.many(4), 1);
        left.tune(REACH, 6);
        due("many(4), dx -5 and dy 4, REACH 6", left.many(4), 0);
        CopiedPatches below = drawn(new int[] {9, 1}, new int[] {2, 3}, new int[] {9, 1}, new int[] {2, 3});
        below.tune(SIDE, 2);
        below.tune(REACH, 2);
        due("many(4), dy 2, REACH 2", below.many(4), 1);
        below.tune(REACH, 3);
        due("many(4), dy 2, REACH 3", below.many(4), 0);
    }

    /** A patch at 5, 0 with a copy at 0, 4: dx is -5, dy 4. */
    private static CopiedPatches leftward() {
        return leftward(7);
    }

    private static CopiedPatches leftward(int rows) {
        CopiedPatches x = new CopiedPatches();
        x.picture(8, rows);
        for (int i = 0; i < 9; i++) x.dot(5 + i % 3, i / 3, 20 + 7 * i);
        x.paste(5, 0, 3, 3, 0, 4);
        return x;
    }

    private static void votes() {
        by(12, "VOTES of a SHIFT (be they fewer than LEAST).");
        CopiedPatches x = dotted(1, 5, 9);
        due("votes(4, 0)", x.votes(4, 0), 4);
        due("votes(8, 0)", x.votes(8, 0), 2);
        due("votes(-4, 0), not that way", x.votes(-4, 0), 0);
        due("votes(0, 0)", x.votes(0, 0), 0);
        due("votes(15, 15)", x.votes(15, 15), 0);
        due("votes(-15, 0)", x.votes(-15, 0), 0);
        x.tune(LEAST, 99);
        due("votes(8, 0), fewer than LEAST", x.votes(8, 0), 2);
        x.tune(LEAST, 1);
        x.tune(REACH, 5);
        due("votes(4, 0), by REACH", x.votes(4, 0), 0);
        due("votes(-5, 4)", leftward().votes(-5, 4), 1);
        for (int dx : new int[] {-16, 16, LOWEST, HIGHEST}) due("votes, wrong dx", x.votes(dx, 0), OUTSIDE);
        for (int dy : new int[] {-1, 16, LOWEST, HIGHEST}) due("votes, wrong dy", x.votes(0, dy), OUTSIDE);
    }

    private static void shift() {
        by(13, "Of SHIFT k:");
        CopiedPatches x = dotted(1, 5, 9);
        int[][] wants = {{104, 0, 4, 2}, {108, 0, 2, 1}};
        for (int k = 0; k < 2; k++) {
            for (int what = 0; what < 4; what++) due("shift(" + k + ", " + what + ")", x.shift(k, what), wants[k][what]);
        }
        due("shift(2, 0)", x.shift(2, 0), UNKNOWN);
        due("shift(2, 9)", x.shift(2, 9), UNKNOWN);
        due("shift(-1, 0)", x.shift(-1, 0), UNKNOWN);
        due("shift(0, 4)", x.shift(0, 4), OUTSIDE);
        due("shift(0, -1)", x.shift(0, -1), OUTSIDE);
        x.tune(LEAST, 3);
        due("many(5), LEAST 3", x.many(5), 1);
        x.tune(LEAST, 4);
        due("many(5), LEAST 4", x.many(5), 1);
        x.tune(LEAST, 5);
        due("shift(0, 0), LEAST 5", x.shift(0, 0), UNKNOWN);
        due("shift(0, 0) leftward", leftward().shift(0, 0), 95);
        due("shift(0, 1) leftward", leftward().shift(0, 1), 4);
        shiftsInOrder();
        shiftsAtMost();
    }

    /** Three dots, each pair of which is a shift of one vote for each of four squares. */
    private static void shiftsInOrder() {
        CopiedPatches x = new CopiedPatches();
        x.picture(12, 12);
        x.tune(SIDE, 2);
        x.dot(5, 2, 9);
        x.dot(9, 4, 9);
        x.dot(3, 6, 9);
        int[][] wants = {{104, 2}, {98, 4}, {94, 2}};
        for (int k = 0; k < 3; k++) {
            due("dx of equal votes, " + k, x.shift(k, 0), wants[k][0]);
            due("dy of equal votes, " + k, x.shift(k, 1), wants[k][1]);
            due("equal votes, " + k, x.shift(k, 2), 4);
            due("one region, " + k, x.shift(k, 3), 1);
        }
        CopiedPatches even = new CopiedPatches();
        even.tune(SIDE, 2);
        even.tune(REACH, 1);
        even.dot(7, 7, 9);
        even.dot(3, 11, 9);
        even.dot(11, 11, 9);
        due("of equal length the lesser dy, though its dx is greater", even.shift(0, 0), 108);
        due("of equal dy the lesser dx", even.shift(1, 0), 96);
        due("then the other", even.shift(2, 0), 104);
    }

    /** Six columns of dots at unlike distances: 15 shifts, of which there are 8. */
    private static void shiftsAtMost() {
        CopiedPatches x = dotted(1, 2, 4, 7, 11, 15);
        x.tune(REACH, 1);
        due("many(5)", x.many(5), 8);
        due("shift(7, 2)", x.shift(7, 2) > 0 ? 1 : 0, 1);
        due("shift(8, 2)", x.shift(8, 2), UNKNOWN);
        for (int k = 1; k < 8; k++) due("votes fall", x.shift(k, 2) <= x.shift(k - 1, 2) ? 1 : 0, 1);
    }

    private static void finding() {
        by(14, "Of FINDING k:");
        CopiedPatches x = leftward();
        int[] wants = {0, 1, 9, 9, 5, 7, 0, 2, 100, 0};
        for (int what = 0; what <= 9; what++) due("finding(0, " + what + ")", x.finding(0, what), wants[what]);
        x = leftward(8);
        x.dot(0, 7, 7);
        x.dot(2, 7, 12);
        x.tune(SLACK, 7);
        due("a place with as much MISS as SLACK comes", x.finding(0, 3), 11);
        due("its row", x.finding(0, 7), 3);
        due("MISSES together", x.finding(0, 9), 7);
        x.tune(SLACK, 12);
        due("finding(0, 3), SLACK 12", x.finding(0, 3), 12);
        due("finding(0, 9), SLACK 12", x.finding(0, 9), 19);
        due("finding(0, 2), SLACK 12", x.finding(0, 2), 9);
        due("finding(1, 0)", x.finding(1, 0), UNKNOWN);
        due("finding(1, 10)", x.finding(1, 10), UNKNOWN);
        due("finding(-1, 0)", x.finding(-1, 0), UNKNOWN);
        due("finding(0, 10)", x.finding(0, 10), OUTSIDE);
        due("finding(0, -1)", x.finding(0, -1), OUTSIDE);
        findingLifted();
        findingsInOrder();
        findingsByPlaces();
        findingsAtMost();
    }

    /** OFFSET, and places that were in it first though they miss by more than SLACK. */
    private static void findingLifted() {
        CopiedPatches x = leftward();
        x.tune(MANNER, 1);
        x.raise(0, 4, 3, 3, -15);
        due("OFFSET and 100", x.finding(0, 8), 85);
        due("no MISSES", x.finding(0, 9), 0);
        due("the pair of the region", x.finding(0, 1), 1);
        x.tune(STEP, 7);
        x.raise(2, 6, 1, 1, 3);
        due("alike by STEP", x.finding(0, 2), 9);
        due("in it, though it misses by more than SLACK", x.finding(0, 3), 9);
        due("MISSES of 3", x.finding(0, 9), 3);
        x.tune(MANNER, 0);
        due("PLAIN: no pair", x.many(6), 0);
        CopiedPatches plain = drawn(new int[] {42, 90, 0, 41, 90}, new int[] {60, 70, 0, 60, 70});
        plain.tune(SIDE, 2);
        plain.tune(STEP, 5);
        due("PLAIN: no OFFSET", plain.finding(0, 8), 100);
        due("PLAIN: MISSES of 1", plain.finding(0, 9), 1);
    }

    /** A copy of 4 by 4 places has 4 pairs; one of 6 by 6, spoilt across by 1, has 1. */
    private static void findingsByPlaces() {
        CopiedPatches x = new CopiedPatches();
        int noise = 1;
        for (int place = 0; place < 256; place++) {
            noise = noise * 1103515245 + 12345;
            x.dot(place % 16, place / 16, (noise >>> 16) % 98);
        }
        x.paste(0, 0, 4, 4, 8, 0);
        x.paste(0, 8, 6, 6, 8, 8);
        x.raise(11, 8, 1, 6, 1);
        x.raise(8, 11, 3, 1, 1);
        x.raise(12, 11, 2, 1, 1);
        x.tune(SLACK, 1);
        due("the finding with more places", x.finding(0, 3) >= 36 ? 1 : 0, 1);
        due("is ahead, though its region has fewer pairs", x.finding(0, 1), 1);
        due("the other has more pairs", x.finding(1, 1), 4);
        due("both are of one shift", x.finding(1, 0), 0);
        due("which has two regions", x.shift(0, 3), 2);
    }

    private static void findingsInOrder() {
        CopiedPatches x = dotted(1, 5, 9);
        int[] shifts = {0, 0, 1};
        int[] pairs = {2, 2, 2};
        for (int k = 0; k < 3; k++) {
            due("shift of finding " + k, x.finding(k, 0), shifts[k]);
            due("pairs of finding " + k, x.finding(k, 1), pairs[k]);
        }
        due("both have grown as far", x.finding(0, 3), x.finding(1, 3));
        due("places first", x.finding(0, 2), 6);
        CopiedPatches apart = dotted(1, 5, 9);
        apart.raise(3, 0, 1, 2, 50);
        apart.raise(4, 0, 1, 2, 60);
        apart.tune(LEAST, 2);
        due("findings with a wall between", apart.many(6) >= 2 ? 1 : 0, 1);
        for (int k = 1; k < apart.many(6); k++) {
            due("places fall", apart.finding(k, 3) <= apart.finding(k - 1, 3) ? 1 : 0, 1);
        }
    }

    /** Single dots three apart in both directions: more regions than there are findings. */
    private static void findingsAtMost() {
        CopiedPatches x = new CopiedPatches();
        x.tune(SIDE, 2);
        x.tune(CROWD, 20);
        for (int k = 0; k < 16; k++) x.dot(1 + 4 * (k % 4), 1 + 4 * (k / 4), 9);
        due("many(5)", x.many(5), 8);
        int regions = 0;
        for (int k = 0; k < 8; k++) regions += x.shift(k, 3);
        due("more regions than 24", regions > 24 ? 1 : 0, 1);
        due("many(6)", x.many(6), 24);
        due("finding(23, 3)", x.finding(23, 3) > 0 ? 1 : 0, 1);
        due("finding(24, 3)", x.finding(24, 3), UNKNOWN);
    }

    private static void holds() {
        by(15, "Of a place and FINDING k:");
        CopiedPatches x = leftward();
        due("in it", x.holds(0, 5, 0), 1);
        due("in it, its last", x.holds(0, 7, 2), 1);
        due("in its copy", x.holds(0, 0, 4), 2);
        due("in its copy, its last", x.holds(0, 2, 6), 2);
        due("in neither", x.holds(0, 4, 0), 0);
        due("in neither, beside the copy", x.holds(0, 3, 4), 0);
        CopiedPatches row = dotted(1, 5, 9);
        due("in both", row.holds(0, 6, 0), 3);
        due("no finding", x.holds(1, 0, 0), UNKNOWN);
        due("no finding below 0", x.holds(-1, 0, 0), UNKNOWN);
        int[][] noPlace = {{8, 0}, {0, 7}, {-1, 0}, {0, -1}, {HIGHEST, 0}, {0, LOWEST}};
        for (int[] p : noPlace) due("no place", x.holds(0, p[0], p[1]), UNKNOWN);
    }

    private static void seen() {
        by(16, "The set of columns of row y");
        CopiedPatches x = leftward();
        int[] found = {224, 224, 224, 0, 0, 0, 0};
        int[] copied = {0, 0, 0, 0, 7, 7, 7};
        for (int y = 0; y < 7; y++) {
            due("seen(" + y + ", 0)", x.seen(y, 0), found[y]);
            due("seen(" + y + ", 1)", x.seen(y, 1), copied[y]);
            due("seen(" + y + ", 2)", x.seen(y, 2), found[y] | copied[y]);
        }
        due("seen(7, 0)", x.seen(7, 0), UNKNOWN);
        due("seen(-1, 0)", x.seen(-1, 0), UNKNOWN);
        due("seen(7, 3)", x.seen(7, 3), UNKNOWN);
        due("seen(HIGHEST, 0)", x.seen(HIGHEST, 0), UNKNOWN);
        due("seen(0, 3)", x.seen(0, 3), OUTSIDE);
        due("seen(0, -1)", x.seen(0, -1), OUTSIDE);
        x.dot(5, 0, 1);
        due("seen(0, 2) after a change", x.seen(0, 2), 0);
    }

    private static void would() {
        by(17, "What many(what) would be, if a SETTING were v");
        CopiedPatches x = dotted(1, 5, 9);
        due("would(REACH, 5, 4)", x.would(REACH, 5, 4), 2);
        due("would(CROWD, 2, 2)", x.would(CROWD, 2, 2), 6);
        due("would(SIDE, 3, 0)", x.would(SIDE, 3, 0), 0);
        due("would(FLATNESS, 9, 1)", x.would(FLATNESS, 9, 1), 15);
        due("would(FLATNESS, 9, 6)", x.would(FLATNESS, 9, 6), 0);
        due("would(STEP, 10, 3)", x.would(STEP, 10, 3), 1);
        due("would(LEAST, 3, 5)", x.would(LEAST, 3, 5), 1);
        due("would(LEAST, 5, 7)", x.would(LEAST, 5, 7), 0);
        due("would(SLACK, 30, 7)", x.would(SLACK, 30, 7), 32);
        due("would(MANNER, 0, 4)", x.would(MANNER, 0, 4), 6);
        due("many(4), as nothing was changed", x.many(4), 6);
        due("pair(5, 1), as nothing was changed", x.pair(5, 1), 9);
        due("tune(REACH, 3), as nothing was changed", x.tune(REACH, 3), 3);
        due("tune(SIDE, 2), as nothing was changed", x.tune(SIDE, 2), 2);
        for (int which = 0; which < 8; which++) {
            due("would too low", x.would(which, LOW[which] - 1, 0), OUTSIDE);
            due("would too high", x.would(which, HIGH[which] + 1, 0), OUTSIDE);
        }
        for (int which : new int[] {-1, 8, LOWEST, HIGHEST}) due("would, which", x.would(which, 2, 0), OUTSIDE);
        for (int what : new int[] {-1, 8, LOWEST, HIGHEST}) due("would, what", x.would(SIDE, 2, what), OUTSIDE);
        x.dot(13, 0, 9);
        due("would(CROWD, 20, 4) after a change", x.would(CROWD, 20, 4), 12);
    }

    private static void many() {
        by(18, "How many:");
        CopiedPatches x = dotted(1, 5, 9);
        int[] wants = {15, 9, 0, 3, 6, 2, 3};
        for (int what = 0; what <= 6; what++) due("many(" + what + ")", x.many(what), wants[what]);
        x.tune(CROWD, 2);
        due("many(2), CROWD 2", x.many(2), 6);
        due("many(7), CROWD 2", x.many(7), 0);
        CopiedPatches patch = leftward();
        due("many(7)", patch.many(7), 18);
        due("many(6)", patch.many(6), 1);
        due("many(0)", patch.many(0), 30);
        for (int what : new int[] {-1, 8, 9, LOWEST, HIGHEST}) due("many, wrong", x.many(what), OUTSIDE);
    }

    public static void main(String[] args) {
        newObject();
        picture();
        dotAndAt();
        raise();
        paste();
        tune();
        mark();
        square();
        inOrder();
        pair();
        votes();
        shift();
        finding();
        holds();
        seen();
        would();
        many();
        endOfQuote();
        Due.end();
    }
}
