/** Promises 14 to 18: each sentence that names a boundary case, quoted, with the cases on both sides. */
public final class FindingBoundariesTest extends ByDocument {

    private FindingBoundariesTest() {
    }

    /** One patch of 2 by 2 places with its copy 5 columns to the right. */
    private static CopiedPatches single() {
        CopiedPatches x = textured(7, 2);
        x.paste(0, 0, 2, 2, 5, 0);
        return x;
    }

    /** A patch of 2 by 2 places, its upper left one told, with its copy 6 columns to the right. */
    private static CopiedPatches sixAcross(int column, int row) {
        CopiedPatches x = textured(12, 6);
        x.paste(column, row, 2, 2, column + 6, row);
        return x;
    }

    private static void dueFinding(String which, CopiedPatches x, int k, int... wants) {
        for (int what = 0; what < wants.length; what++) {
            due(which + ", finding(" + k + ", " + what + ")", x.finding(k, what), wants[what]);
        }
    }

    private static void noFinding() {
        by(14, "UNKNOWN; OUTSIDE.");
        CopiedPatches late = single();
        late.tune(LEAST, 2);
        CopiedPatches[] without = {new CopiedPatches(), dotted(1), textured(5, 5), late};
        for (CopiedPatches x : without) {
            due("how many", x.many(6), 0);
            for (int k = -1; k <= 1; k++) {
                due("finding(" + k + ", 0)", x.finding(k, 0), UNKNOWN);
                due("finding(" + k + ", 10)", x.finding(k, 10), UNKNOWN);
            }
        }
        CopiedPatches one = single();
        dueFinding("the only one", one, 0, 0, 1, 4, 4, 0, 1, 0, 1, 100, 0);
        for (int k : justOutside(0, 0)) {
            due("finding(" + k + ", 0)", one.finding(k, 0), UNKNOWN);
            due("no such finding ahead of what 10", one.finding(k, 10), UNKNOWN);
        }
        for (int what : justOutside(0, 9)) due("what " + what, one.finding(0, what), OUTSIDE);
    }

    private static void firstTwentyFour() {
        by(14, "of the first 24 of them (all, if there are no more) there is a FINDING each");
        CopiedPatches x = patched();
        due("24 regions", x.many(6), 24);
        due("the last finding", x.finding(23, 6), 9);
        due("behind the last", x.finding(24, 0), UNKNOWN);
        x.paste(0, 12, 2, 2, 3, 12);
        due("25 regions", x.many(6), 24);
        due("the one that came", x.finding(12, 6), 12);
        due("the last finding of those that stay", x.finding(23, 6), 6);
        due("its shift", x.finding(23, 0), 2);
        due("it holds", x.holds(23, 0, 6), 1);
        due("behind the last of 25", x.finding(24, 0), UNKNOWN);
        x.dot(9, 9, 97);
        due("22 regions", x.many(6), 22);
        due("the last finding of 22", x.finding(21, 6), 6);
        due("behind the last of 22", x.finding(22, 0), UNKNOWN);
    }

    private static void regionsInOrder() {
        by(14, "REGIONS of all SHIFTS are in an order: that with more PAIRS ahead, of several that of"
                + " the lesser SHIFT (by its number), of these that with the lesser number of the"
                + " least first place of its PAIRS");
        CopiedPatches more = patched();
        more.paste(0, 12, 3, 2, 9, 12);
        due("25 regions, one of two pairs", more.many(6), 24);
        due("is ahead, though its shift is the last", more.finding(0, 0), 2);
        due("and its place, too", more.finding(0, 6), 12);
        due("its pairs", more.finding(0, 1), 2);
        due("the last finding", more.finding(23, 6), 6);
        CopiedPatches lesser = patched();
        lesser.paste(0, 12, 2, 2, 3, 12);
        lesser.paste(0, 12, 2, 2, 6, 12);
        due("27 regions", lesser.shift(0, 3) + lesser.shift(1, 3) + lesser.shift(2, 3), 14 + 9 + 4);
        due("14 of the first shift, the last", lesser.finding(13, 0), 0);
        due("9 of the second, the last", lesser.finding(22, 0), 1);
        due("1 of the third", lesser.finding(23, 0), 2);
        due("that of the least place", lesser.finding(23, 6), 0);
        due("many(6)", lesser.many(6), 24);
    }

    private static void findingsInOrder() {
        by(14, "FINDINGS are numbered: that with more places ahead, of several that of the lesser SHIFT"
                + " (by its number), of these that with the lesser number of the least first place of"
                + " its PAIRS.");
        CopiedPatches x = patched();
        int k = 0;
        for (int shift = 0; shift < 3; shift++) {
            for (int y = 0; y <= 9; y += 3) {
                for (int column = 0; column <= 6 - 3 * shift; column += 3) {
                    due("shift of " + k, x.finding(k, 0), shift);
                    due("column of " + k, x.finding(k, 4), column);
                    due("row of " + k, x.finding(k, 6), y);
                    k++;
                }
            }
        }
        x.paste(2, 9, 1, 1, 11, 9);
        due("the last has one place more: it is ahead", x.finding(0, 0), 2);
        dueFinding("which is all that it has more", x, 0, 2, 1, 4, 5, 0, 2, 9, 10, 100, 0);
        dueFinding("behind it", x, 1, 0, 1, 4, 4, 0, 1, 0, 1, 100, 0);
        CopiedPatches farther = textured(12, 8);
        farther.paste(0, 0, 2, 2, 3, 0);
        farther.paste(0, 3, 2, 2, 6, 3);
        farther.paste(0, 6, 2, 2, 6, 6);
        int[] rows = {3, 6, 0};
        int[] shifts = {0, 0, 1};
        for (int i = 0; i < 3; i++) {
            due("the lesser number of a shift is that of dx 6, row of " + i, farther.finding(i, 6), rows[i]);
            due("its shift", farther.finding(i, 0), shifts[i]);
        }
    }

    private static void morePlacesThanPairs() {
        by(14, "that with more places ahead");
        CopiedPatches x = sixAcross(0, 0);
        x.paste(0, 3, 3, 3, 6, 3);
        due("4 pairs and 9 places", x.finding(0, 1), 4);
        x.paste(2, 0, 4, 1, 8, 0);
        due("9 places are still more", x.finding(0, 3), 9);
        due("than 8", x.finding(1, 3), 8);
        x.paste(5, 1, 1, 1, 11, 1);
        due("9 and 9: the lesser place", x.finding(0, 1), 1);
        x.paste(3, 3, 1, 1, 9, 3);
        due("10 places", x.finding(0, 3), 10);
        due("of 4 pairs", x.finding(0, 1), 4);
        due("9 places", x.finding(1, 3), 9);
        due("of 1 pair", x.finding(1, 1), 1);
    }

    private static void placesFirst() {
        by(14, "first all places of the first SQUARES of its PAIRS are in it");
        for (int side = 2; side <= 4; side++) {
            CopiedPatches x = textured(10, 5);
            x.tune(SIDE, side);
            x.paste(0, 0, side, side, 5, 0);
            dueFinding("SIDE " + side, x, 0, 0, 1, side * side, side * side);
            x.paste(0, 0, side, side + 1, 5, 0);
            dueFinding("two squares have places in common", x, 0, 0, 2, side * (side + 1));
        }
        by(14, "9 MISSES of all places in it together");
        CopiedPatches x = drawn(new int[] {40, 0, 70, 59, 19}, new int[] {40, 99, 5, 40, 80});
        x.tune(SIDE, 2);
        x.tune(STEP, 20);
        dueFinding("though they miss by more than SLACK", x, 0, 0, 1, 4, 4, 0, 1, 0, 1, 100, 19 + 19 + 19);
        CopiedPatches whole = tiled();
        dueFinding("as many places as can be", whole, 0, 0, 180, 208, 208, 0, 12, 0, 15, 100, 0);
        int[] places = {208, 192, 160, 156, 156, 128, 120, 120};
        for (int k = 0; k < 8; k++) due("places of " + k, whole.finding(k, 3), places[k]);
        due("the least column of dx -3", whole.finding(3, 4), 3);
        due("the greatest column of dx -3", whole.finding(3, 5), 15);
        due("the greatest row of dy 4", whole.finding(3, 7), 11);
    }

    private static void growsToFourSides() {
        by(14, "a place on the left, on the right, above or below one that is in it comes to it");
        int[][] beside = {{1, 2}, {1, 3}, {4, 2}, {4, 3}, {2, 1}, {3, 1}, {2, 4}, {3, 4}};
        for (int[] place : beside) {
            CopiedPatches x = sixAcross(2, 2);
            copyAcross(x, new int[][] {place});
            due("beside it: " + place[0] + ", " + place[1], x.finding(0, 3), 5);
            due("which it holds", x.holds(0, place[0], place[1]), 1);
            due("the places first", x.finding(0, 2), 4);
        }
        CopiedPatches x = sixAcross(2, 2);
        copyAcross(x, new int[][] {{1, 1}, {4, 1}, {1, 4}, {4, 4}, {0, 2}, {5, 3}, {2, 0}, {3, 5}});
        due("none at its corners, nor one farther", x.finding(0, 3), 4);
    }

    /** A path one place wide that leads right, down, left, down, left and up. */
    private static void growsAsLongAsThereIsOne() {
        by(14, "Then, as long as there is one,");
        CopiedPatches x = sixAcross(0, 0);
        x.paste(2, 0, 4, 1, 8, 0);
        x.paste(5, 1, 1, 2, 11, 1);
        x.paste(3, 2, 2, 1, 9, 2);
        x.paste(3, 3, 1, 2, 9, 3);
        x.paste(1, 4, 2, 1, 7, 4);
        x.paste(1, 3, 1, 1, 7, 3);
        dueFinding("to the end of the path", x, 0, 0, 1, 4, 17, 0, 5, 0, 4, 100, 0);
        due("which it holds", x.holds(0, 1, 3), 1);
        x.dot(11, 1, 98);
        dueFinding("to where it is broken", x, 0, 0, 1, 4, 8, 0, 5, 0, 1, 100, 0);
        due("behind which it holds nothing", x.holds(0, 5, 2), 0);
    }

    /** Three columns of squares that are not flat, five columns of zeros beside them, in all 16 rows. */
    private static void growsInAllRows() {
        by(14, "Then, as long as there is one,");
        CopiedPatches x = textured(16, 16);
        x.raise(2, 0, 6, 16, -99);
        x.paste(0, 0, 8, 16, 8, 0);
        dueFinding("in all rows at once", x, 0, 0, 2 * 15, 3 * 16, 8 * 16, 0, 7, 0, 15, 100, 0);
        CopiedPatches column = textured(12, 16);
        column.tune(SLACK, 1);
        column.paste(1, 0, 2, 2, 7, 0);
        column.paste(0, 0, 1, 16, 6, 0);
        column.raise(6, 0, 1, 16, 1);
        column.paste(1, 5, 1, 1, 7, 5);
        dueFinding("down a column and on from there", column, 0, 0, 1, 4, 21, 0, 2, 0, 15, 100, 16);
    }

    /** Paths that lead to an edge, along it and back, and a place at that edge that no path leads to. */
    private static void growsAlongTheEdges() {
        by(14, "a place on the left, on the right, above or below one that is in it comes to it");
        CopiedPatches top = sixAcross(2, 2);
        copyAcross(top, new int[][] {{2, 1}, {2, 0}, {3, 0}, {4, 0}, {4, 1}, {0, 0}});
        dueFinding("along the first row", top, 0, 0, 1, 4, 9, 2, 4, 0, 3, 100, 0);
        CopiedPatches bottom = textured(12, 16);
        bottom.paste(2, 12, 2, 2, 8, 12);
        copyAcross(bottom, new int[][] {{2, 14}, {2, 15}, {3, 15}, {4, 15}, {4, 14}, {0, 15}});
        dueFinding("along the last row", bottom, 0, 0, 1, 4, 9, 2, 4, 12, 15, 100, 0);
        CopiedPatches left = textured(16, 12);
        left.paste(2, 2, 2, 2, 2, 8);
        copyDown(left, new int[][] {{1, 2}, {0, 2}, {0, 3}, {0, 4}, {1, 4}, {0, 0}});
        dueFinding("along the first column", left, 0, 0, 1, 4, 9, 0, 3, 2, 4, 100, 0);
        CopiedPatches right = textured(16, 12);
        right.paste(12, 2, 2, 2, 12, 8);
        copyDown(right, new int[][] {{14, 2}, {15, 2}, {15, 3}, {15, 4}, {14, 4}, {15, 0}});
        dueFinding("along the last column", right, 0, 0, 1, 4, 9, 12, 15, 2, 4, 100, 0);
    }

    private static void copyAcross(CopiedPatches x, int[][] places) {
        for (int[] place : places) x.paste(place[0], place[1], 1, 1, place[0] + 6, place[1]);
    }

    private static void copyDown(CopiedPatches x, int[][] places) {
        for (int[] place : places) x.paste(place[0], place[1], 1, 1, place[0], place[1] + 6);
    }

    private static void endsAtThePicture() {
        by(14, "if the place by the SHIFT from there lies in the PICTURE");
        CopiedPatches right = dotted(1, 9);
        dueFinding("dx 8 of 16 columns, all of them 0", right, 0, 0, 2, 6, 16, 0, 7, 0, 1, 100, 0);
        due("(8, 0) leads out", right.holds(0, 8, 0), 2);
        CopiedPatches left = new CopiedPatches();
        left.picture(9, 8);
        left.tune(SIDE, 2);
        left.dot(6, 1, 9);
        left.dot(1, 5, 9);
        dueFinding("dx -5, dy 4 of 9 columns, 8 rows", left, 0, 0, 4, 9, 16, 5, 8, 0, 3, 100, 0);
        due("(4, 0) leads out", left.holds(0, 4, 0), 0);
        due("(5, 4) leads out", left.holds(0, 5, 4), 0);
        CopiedPatches greatest = new CopiedPatches();
        greatest.tune(SIDE, 2);
        greatest.dot(15, 0, 9);
        greatest.dot(15, 14, 9);
        dueFinding("dy 14 of 16 rows", greatest, 0, 0, 1, 4, 32, 0, 15, 0, 1, 100, 0);
    }

    /** By their numbers the last place of a row and the first of the next would be side by side. */
    private static void endsAtTheRow() {
        by(14, "on the left, on the right");
        CopiedPatches last = textured(16, 8);
        last.paste(14, 0, 2, 2, 14, 4);
        last.paste(0, 2, 1, 1, 0, 6);
        dueFinding("31 and 32 are not side by side", last, 0, 0, 1, 4, 4, 14, 15, 0, 1, 100, 0);
        CopiedPatches first = textured(16, 8);
        first.paste(0, 1, 2, 2, 0, 5);
        first.paste(15, 0, 1, 1, 15, 4);
        dueFinding("16 and 15 are not side by side", first, 0, 0, 1, 4, 4, 0, 1, 1, 2, 100, 0);
    }

    private static void slackToTheBrim() {
        by(14, "MISS of it is not more than SLACK.");
        for (int slack : new int[] {0, 1, 15, 29, 30}) {
            due("as much as SLACK " + slack, missing(40, 40 + slack, slack).holds(0, 2, 0), 1);
            due("1 more than SLACK " + slack, missing(40, 41 + slack, slack).holds(0, 2, 0), 0);
            due("1 less than SLACK " + slack, missing(40, 39 + slack, slack).holds(0, 2, 0), slack > 0 ? 1 : 0);
            due("far more than SLACK " + slack, missing(0, 99, slack).holds(0, 2, 0), 0);
        }
        by(14, "MISS of a place: the GREY at the place by the SHIFT less the GREY there less"
                + " OFFSET, or that the other way, if it is below 0.");
        for (int slack : new int[] {0, 1, 15, 29, 30}) {
            due("as much as SLACK " + slack, missing(40, 40 - slack, slack).holds(0, 2, 0), 1);
            due("1 more than SLACK " + slack, missing(40, 39 - slack, slack).holds(0, 2, 0), 0);
            due("far more than SLACK " + slack, missing(99, 0, slack).holds(0, 2, 0), 0);
        }
    }

    /** The place right of the patch and the place by the shift from there have these greys. */
    private static CopiedPatches missing(int here, int there, int slack) {
        CopiedPatches x = sixAcross(0, 0);
        x.dot(2, 0, here);
        x.dot(8, 0, there);
        x.tune(SLACK, slack);
        return x;
    }

    private static void missesLessOffset() {
        by(14, "the GREY at the place by the SHIFT less the GREY there less OFFSET");
        int[][] cases = {{28, 1}, {29, 0}, {26, 1}, {24, 1}, {23, 0}, {6, 0}};
        for (int[] c : cases) {
            CopiedPatches x = sixAcross(0, 0);
            x.tune(MANNER, RAISED);
            x.tune(SLACK, 2);
            x.raise(6, 0, 2, 2, 20);
            x.dot(8, 0, c[0]);
            due("OFFSET and 100", x.finding(0, 8), 120);
            due("GREY " + greyOfTexture(2, 0) + " and " + c[0], x.holds(0, 2, 0), c[1]);
            due("the places first miss by nothing", x.holds(0, 0, 0), 1);
        }
        CopiedPatches x = sixAcross(0, 0);
        x.dot(2, 0, 50);
        x.dot(8, 0, 43);
        x.tune(SLACK, 7);
        int together = 0;
        for (int y = 0; y < 6; y++) {
            for (int column = 0; column < 6; column++) {
                int miss = Math.abs(x.at(column + 6, y) - x.at(column, y));
                together += x.holds(0, column, y) == 1 ? miss : 0;
            }
        }
        due("of those that came, too", x.finding(0, 9), together);
        due("7 of one at least", together >= 7 ? 1 : 0, 1);
    }

    private static void offsetToTheEnds() {
        by(14, "OFFSET: PLAIN 0; RAISED the least GREY of the second SQUARE less that of the first one");
        CopiedPatches up = drawn(new int[] {0, 0, 50, 20, 98, 98}, new int[] {0, 1, 50, 20, 98, 99});
        up.tune(SIDE, 2);
        due("PLAIN: not alike", up.finding(0, 8), UNKNOWN);
        up.tune(MANNER, RAISED);
        dueFinding("from 0 to 98", up, 0, 0, 1, 4, 4, 0, 1, 0, 1, 198, 0);
        CopiedPatches down = drawn(new int[] {98, 98, 50, 20, 0, 0}, new int[] {98, 99, 50, 20, 0, 1});
        down.tune(SIDE, 2);
        down.tune(MANNER, RAISED);
        dueFinding("from 98 to 0", down, 0, 0, 1, 4, 4, 0, 1, 0, 1, 2, 0);
        CopiedPatches below = drawn(new int[] {5, 9}, new int[] {30, 7}, new int[] {80, 2}, new int[] {45, 49},
                new int[] {70, 47});
        below.tune(SIDE, 2);
        below.tune(MANNER, RAISED);
        dueFinding("right below, from 5 to 45", below, 0, 0, 1, 4, 4, 0, 1, 0, 1, 140, 0);
        CopiedPatches none = single();
        none.tune(MANNER, RAISED);
        due("RAISED, the same", none.finding(0, 8), 100);
        CopiedPatches plain = drawn(new int[] {40, 60, 5, 45, 65}, new int[] {60, 90, 95, 65, 95});
        plain.tune(SIDE, 2);
        plain.tune(STEP, 20);
        dueFinding("PLAIN, 5 more by STEP 20", plain, 0, 0, 1, 4, 4, 0, 1, 0, 1, 100, 20);
        plain.tune(MANNER, RAISED);
        dueFinding("RAISED, 5 more by STEP 20", plain, 0, 0, 1, 4, 4, 0, 1, 0, 1, 105, 0);
        by(14, "of that PAIR of the REGION whose first SQUARE's place has the least number");
        CopiedPatches two = drawn(new int[] {10, 20, 40, 99, 40, 52, 72}, new int[] {15, 27, 46, 0, 45, 57, 78});
        two.tune(SIDE, 2);
        two.tune(MANNER, RAISED);
        two.tune(STEP, 5);
        dueFinding("30 by the first pair, 32 by the second", two, 0, 0, 2, 6, 6, 0, 2, 0, 1, 130, 6);
        CopiedPatches less = drawn(new int[] {40, 52, 72, 99, 10, 20, 40}, new int[] {45, 57, 78, 0, 15, 27, 46});
        less.tune(SIDE, 2);
        less.tune(MANNER, RAISED);
        less.tune(STEP, 5);
        dueFinding("-30 by the first pair, -32 by the second", less, 0, 0, 2, 6, 6, 0, 2, 0, 1, 70, 6);
    }

    private static void holdsOneOrBoth() {
        by(15, "1, if it is in it, and 2, if it is in its COPY, together (0: neither).");
        CopiedPatches x = tiled();
        int[] wants = {1, 1, 1, 3, 3, 3, 3, 3, 3, 3, 3, 3, 3, 2, 2, 2};
        for (int column = 0; column < 16; column++) {
            due("dx 3, column " + column + ", first row", x.holds(0, column, 0), wants[column]);
            due("dx 3, column " + column + ", last row", x.holds(0, column, 15), wants[column]);
            due("dx -3, column " + column, x.holds(3, column, 2), column < 3 ? 0 : 1);
            due("dx -3, dy 4, column " + column, x.holds(3, column, 14), column < 13 ? 2 : 0);
        }
        CopiedPatches one = single();
        int[] row = {1, 1, 0, 0, 0, 2, 2};
        for (int column = 0; column < 7; column++) due("column " + column, one.holds(0, column, 1), row[column]);
        by(15, "UNKNOWN: FINDING, place.");
        for (int k : justOutside(0, 0)) {
            due("finding " + k, one.holds(k, 0, 0), UNKNOWN);
            due("finding " + k + ", no place", one.holds(k, 7, 2), UNKNOWN);
        }
        for (int column : justOutside(0, 6)) due("column " + column, one.holds(0, column, 0), UNKNOWN);
        for (int y : justOutside(0, 1)) due("row " + y, one.holds(0, 0, y), UNKNOWN);
        due("no finding at all", new CopiedPatches().holds(0, 0, 0), UNKNOWN);
        due("the last of 24", patched().holds(23, 1, 10), 1);
        due("behind the last of 24", patched().holds(24, 1, 10), UNKNOWN);
        by(15, "The COPY: all places by the SHIFT from those that are in it.");
        CopiedPatches grown = sixAcross(0, 0);
        grown.paste(2, 0, 1, 1, 8, 0);
        due("by the shift from one that came", grown.holds(0, 8, 0), 2);
        due("beside it", grown.holds(0, 9, 0), 0);
        due("below it", grown.holds(0, 8, 1), 0);
        CopiedPatches down = textured(8, 7);
        down.paste(1, 1, 2, 2, 4, 4);
        for (int place = 0; place < 56; place++) {
            int column = place % 8, y = place / 8;
            boolean isIn = (column == 1 || column == 2) && (y == 1 || y == 2);
            boolean isCopy = (column == 4 || column == 5) && (y == 4 || y == 5);
            due("column " + column + ", row " + y, down.holds(0, column, y), isIn ? 1 : isCopy ? 2 : 0);
        }
    }

    private static void seenAsBits() {
        by(16, "Sets of columns are told as bits (bit x for column x).");
        CopiedPatches x = textured(16, 2);
        x.paste(0, 0, 8, 2, 8, 0);
        for (int y = 0; y < 2; y++) {
            due("columns 0 to 7, row " + y, x.seen(y, 0), 255);
            due("columns 8 to 15, row " + y, x.seen(y, 1), 65_280);
            due("all columns, row " + y, x.seen(y, 2), 65_535);
        }
        CopiedPatches ends = textured(16, 2);
        ends.paste(0, 0, 2, 2, 14, 0);
        due("columns 0 and 1", ends.seen(0, 0), 1 + 2);
        due("columns 14 and 15", ends.seen(0, 1), 16_384 + 32_768);
        by(16, "The set of columns of row y that are in any FINDING (how 0), in any COPY (1), in either (2).");
        CopiedPatches many = patched();
        for (int y = 0; y < 14; y++) {
            boolean has = y % 3 != 2 && y < 11;
            due("in a finding, row " + y, many.seen(y, 0), has ? 0b11011011 : 0);
            due("in a copy, row " + y, many.seen(y, 1), has ? 0b11011011000 : 0);
            due("in either, row " + y, many.seen(y, 2), has ? 0b11011011011 : 0);
        }
        CopiedPatches down = textured(8, 7);
        down.paste(1, 1, 2, 2, 4, 4);
        int[] copies = {0, 0, 0, 0, 0b110000, 0b110000, 0};
        for (int y = 0; y < 7; y++) due("dx 3, dy 3, row " + y, down.seen(y, 1), copies[y]);
        by(16, "UNKNOWN: the row; OUTSIDE.");
        for (int y : justOutside(0, 1)) {
            due("row " + y, x.seen(y, 0), UNKNOWN);
            due("no such row ahead of how 3", x.seen(y, 3), UNKNOWN);
        }
        for (int how : justOutside(0, 2)) due("how " + how, x.seen(1, how), OUTSIDE);
        CopiedPatches blank = new CopiedPatches();
        for (int how = 0; how <= 2; how++) due("nothing is seen", blank.seen(15, how), 0);
        due("row 16 of 16", blank.seen(16, 0), UNKNOWN);
        blank.picture(1, 1);
        due("the only row", blank.seen(0, 2), 0);
        due("below the only row", blank.seen(1, 2), UNKNOWN);
    }

    /** Every count by every setting at both its ends is that of another object that is tuned so. */
    private static void wouldAtTheEnds() {
        by(17, "What many(what) would be, if a SETTING were v (nothing is changed).");
        CopiedPatches x = stepped();
        CopiedPatches another = stepped();
        int[] counts = new int[8];
        for (int what = 0; what < 8; what++) counts[what] = x.many(what);
        for (int which = 0; which < 8; which++) {
            for (int v : new int[] {LOW[which], HIGH[which]}) {
                int before = another.tune(which, v);
                for (int what = 0; what < 8; what++) {
                    due("would(" + which + ", " + v + ", " + what + ")",
                            x.would(which, v, what), another.many(what));
                }
                another.tune(which, before);
            }
        }
        for (int what = 0; what < 8; what++) due("many(" + what + ") as before", x.many(what), counts[what]);
        for (int which = 0; which < 8; which++) {
            int before = another.tune(which, LOW[which]);
            due("setting " + which + " as before", x.tune(which, LOW[which]), before);
        }
    }

    /** A picture on which every setting tells. */
    private static CopiedPatches stepped() {
        CopiedPatches x = textured(9, 8);
        x.tune(SIDE, 3);
        x.paste(0, 0, 4, 4, 5, 0);
        x.paste(0, 4, 4, 3, 5, 5);
        x.raise(5, 5, 4, 3, 2);
        x.dot(6, 1, x.at(6, 1) + 1);
        x.tune(STEP, 2);
        return x;
    }

    private static void wouldByHand() {
        by(17, "if a SETTING were v");
        CopiedPatches x = new CopiedPatches();
        x.picture(2, 2);
        int[] sides = {1, 0, 0};
        for (int side = 2; side <= 4; side++) due("SIDE " + side, x.would(SIDE, side, 0), sides[side - 2]);
        x.dot(0, 0, 99);
        x.tune(SIDE, 2);
        due("FLATNESS 98", x.would(FLATNESS, 98, 1), 0);
        due("FLATNESS 99", x.would(FLATNESS, 99, 1), 1);
        CopiedPatches tiles = tiled();
        due("CROWD 20", tiles.would(CROWD, 20, 2), 0);
        due("CROWD 19", tiles.would(CROWD, 19, 2), 180);
        due("CROWD 15", tiles.would(CROWD, 15, 4), 315);
        due("CROWD 14", tiles.would(CROWD, 14, 4), 0);
        due("LEAST 99", tiles.would(LEAST, 99, 5), 8);
        due("REACH 12", tiles.would(REACH, 12, 5), 8);
        due("REACH 13", tiles.would(REACH, 13, 4), 0);
        due("SIDE 3", tiles.would(SIDE, 3, 0), 196);
        CopiedPatches full = fullest();
        full.tune(CROWD, 8);
        due("CROWD 20, as many pairs as there can be", full.would(CROWD, 20, 4), MOST_PAIRS);
        due("many(4), as nothing was changed, CROWD 8", full.many(4), 10);
        CopiedPatches empty = new CopiedPatches();
        empty.picture(1, 16);
        for (int what = 0; what < 8; what++) due("no square, what " + what, empty.would(SIDE, 2, what), 0);
        by(17, "OUTSIDE: which, v, what.");
        for (int which = 0; which < 8; which++) {
            for (int v : justOutside(LOW[which], HIGH[which])) {
                due("would(" + which + ", " + v + ", 0)", tiles.would(which, v, 0), OUTSIDE);
            }
        }
        for (int which : justOutside(0, 7)) due("which " + which, tiles.would(which, 2, 0), OUTSIDE);
        for (int what : justOutside(0, 7)) due("what " + what, tiles.would(SIDE, 2, what), OUTSIDE);
        due("many(4), as nothing was changed", tiles.many(4), 2025);
    }

    private static void manyOfNoneAndOfMost() {
        by(18, "How many: 0 SQUARES, 1 FLAT, 2 CROWDED ones, 3 unlike ones (ALIKE ones counted once),"
                + " 4 PAIRS, 5 SHIFTS, 6 FINDINGS, 7 places that are in any FINDING or COPY.");
        CopiedPatches none = new CopiedPatches();
        int[][] small = {{1, 1}, {2, 16}, {16, 2}};
        for (int[] size : small) {
            none.picture(size[0], size[1]);
            for (int what = 0; what < 8; what++) due("no square, many(" + what + ")", none.many(what), 0);
        }
        none.picture(3, 3);
        dueCounts("one square, flat", none, 1, 1, 0, 1, 0, 0, 0, 0);
        none.dot(2, 2, 1);
        dueCounts("one square, not flat", none, 1, 0, 0, 1, 0, 0, 0, 0);
        CopiedPatches blank = new CopiedPatches();
        blank.tune(SIDE, 2);
        dueCounts("all flat", blank, 225, 225, 0, 1, 0, 0, 0, 0);
        dueCounts("all crowded", striped(16, 16), 225, 0, 225, 2, 0, 0, 0, 0);
        dueCounts("all unlike", textured(16, 16), 225, 0, 0, 225, 0, 0, 0, 0);
        dueCounts("pairs and shifts", tiled(), 225, 0, 0, 12, 2025, 8, 8, 256);
        dueCounts("as many pairs as there can be", fullest(), 225, 0, 0, 12, MOST_PAIRS, 8, 24, 256);
        CopiedPatches findings = patched();
        dueCounts("24 findings", findings, 143, 0, 0, 143 - 4 * 3, 24, 3, 24, 64);
        findings.paste(0, 12, 2, 2, 3, 12);
        dueCounts("25 regions", findings, 143, 0, 0, 143 - 4 * 3 - 1, 25, 3, 24, 72);
        CopiedPatches halves = textured(16, 16);
        halves.paste(0, 0, 8, 16, 8, 0);
        dueCounts("all places", halves, 225, 0, 0, 225 - 105, 105, 1, 1, 256);
        by(18, "OUTSIDE.");
        for (int what : justOutside(0, 7)) due("many(" + what + ")", halves.many(what), OUTSIDE);
    }

    private static void dueCounts(String which, CopiedPatches x, int... counts) {
        for (int what = 0; what < 8; what++) due(which + ", many(" + what + ")", x.many(what), counts[what]);
    }

    /** As many calls as an object is used for, the dearest ones, up to the very last. */
    private static void asManyCalls() {
        by(18, "An object is used for at most 512 calls after it has been made");
        CopiedPatches x = new CopiedPatches();
        PlainPatches plain = new PlainPatches();
        for (int k = 0; k < 128; k++) {
            int column = k * 7 % 16, row = k * 5 % 13, v = k * k % 3;
            int which = k % 8, setting = LOW[which] + k % 2;
            due("dot", x.dot(column, row, v), plain.dot(column, row, v));
            due("would", x.would(which, setting, 7), plain.would(which, setting, 7));
            due("finding", x.finding(k % 3, 9), plain.finding(k % 3, 9));
            due("many", x.many(7), plain.many(7));
        }
    }

    public static void main(String[] args) {
        noFinding();
        firstTwentyFour();
        regionsInOrder();
        findingsInOrder();
        morePlacesThanPairs();
        placesFirst();
        growsToFourSides();
        growsAsLongAsThereIsOne();
        growsInAllRows();
        growsAlongTheEdges();
        endsAtThePicture();
        endsAtTheRow();
        slackToTheBrim();
        missesLessOffset();
        offsetToTheEnds();
        holdsOneOrBoth();
        seenAsBits();
        wouldAtTheEnds();
        wouldByHand();
        manyOfNoneAndOfMost();
        asManyCalls();
        endOfQuote();
        Due.end();
    }
}
