/** Promises 1 to 10: each sentence that names a boundary case, quoted, with the cases on both sides. */
public final class SquareBoundariesTest extends ByDocument {
    private static final String SETTINGS_TOLD = "SETTINGS: 0 SIDE (2 .. 4; 3 at first);"
            + " 1 STEP (1 .. 20; 1); 2 MANNER (0 PLAIN, 1 RAISED; 0); 3 FLATNESS (0 .. 99; 0);"
            + " 4 REACH (1 .. 15; 3); 5 CROWD (2 .. 20; 8); 6 LEAST (1 .. 99; 1); 7 SLACK (0 .. 30; 0).";

    private SquareBoundariesTest() {
    }

    private static void newObject() {
        by(1, "All GREYS 0, SETTINGS as told.");
        CopiedPatches x = new CopiedPatches();
        for (int place = 0; place < 256; place++) {
            due("at place " + place, x.at(place % 16, place / 16), 0);
        }
        for (int which = 0; which < 8; which++) {
            due("tune, setting " + which, x.tune(which, HIGH[which]), AT_FIRST[which]);
        }
        by(1, "W columns and H rows (1 .. 16 each; 16 and 16 at first)");
        due("at(15, 15)", x.at(15, 15), 0);
        due("at(16, 15)", x.at(16, 15), UNKNOWN);
        due("at(15, 16)", x.at(15, 16), UNKNOWN);
        by(1, "NONE is -9.");
        due("NONE", CopiedPatches.NONE, -9);
        due("UNKNOWN", CopiedPatches.UNKNOWN, -1);
        due("OUTSIDE", CopiedPatches.OUTSIDE, -2);
        nothingAtFirst();
    }

    private static void nothingAtFirst() {
        by(1, "a GREY 0 .. 99 (0 at first)");
        CopiedPatches x = new CopiedPatches();
        int[] counts = {196, 196, 0, 1, 0, 0, 0, 0};
        for (int what = 0; what < 8; what++) due("many(" + what + ")", x.many(what), counts[what]);
        due("inOrder(0)", x.inOrder(0), 0);
        due("inOrder(195)", x.inOrder(195), 16 * 13 + 13);
        due("inOrder(196)", x.inOrder(196), UNKNOWN);
        due("pair(0, 0)", x.pair(0, 0), UNKNOWN);
        due("shift(0, 0)", x.shift(0, 0), UNKNOWN);
        due("finding(0, 0)", x.finding(0, 0), UNKNOWN);
        due("seen(15, 2)", x.seen(15, 2), 0);
    }

    private static void pictureOfLeastAndGreatestSize() {
        by(2, "The PICTURE has W columns and H rows (1 .. 16 each");
        CopiedPatches x = new CopiedPatches();
        int[][] sizes = {{1, 1}, {1, 16}, {16, 1}, {16, 16}, {15, 2}};
        for (int[] size : sizes) {
            int w = size[0], h = size[1];
            due("picture(" + w + ", " + h + ")", x.picture(w, h), w * h);
            due("its last place", x.at(w - 1, h - 1), 0);
            due("right of it", x.at(w, h - 1), UNKNOWN);
            due("below it", x.at(w - 1, h), UNKNOWN);
        }
        by(2, "OUTSIDE.");
        for (int wrong : justOutside(1, 16)) {
            due("picture(" + wrong + ", 5)", x.picture(wrong, 5), OUTSIDE);
            due("picture(5, " + wrong + ")", x.picture(5, wrong), OUTSIDE);
            due("picture, both wrong", x.picture(wrong, wrong), OUTSIDE);
        }
        due("the picture of before, its last place", x.at(14, 1), 0);
        due("the picture of before, right of it", x.at(15, 1), UNKNOWN);
        due("the picture of before, below it", x.at(14, 2), UNKNOWN);
    }

    private static void pictureIsEmpty() {
        by(2, "all GREYS 0 (SETTINGS stay)");
        CopiedPatches x = new CopiedPatches();
        for (int which = 0; which < 8; which++) x.tune(which, HIGH[which]);
        x.raise(0, 0, 16, 16, 99);
        due("picture(16, 16), as large as before", x.picture(16, 16), 256);
        for (int place = 0; place < 256; place += 5) due("at", x.at(place % 16, place / 16), 0);
        x.raise(0, 0, 16, 16, 99);
        x.picture(1, 1);
        due("at(0, 0) of a smaller one", x.at(0, 0), 0);
        x.picture(16, 16);
        for (int place = 0; place < 256; place += 3) due("at", x.at(place % 16, place / 16), 0);
        for (int which = 0; which < 8; which++) {
            due("setting " + which + " stays", x.tune(which, LOW[which]), HIGH[which]);
        }
    }

    private static void dotOfLeastAndGreatestGrey() {
        by(3, "at each place a GREY 0 .. 99");
        CopiedPatches x = new CopiedPatches();
        x.picture(7, 4);
        int[][] corners = {{0, 0}, {6, 0}, {0, 3}, {6, 3}};
        for (int[] c : corners) {
            due("dot to 99", x.dot(c[0], c[1], 99), 0);
            due("dot to 99 again", x.dot(c[0], c[1], 99), 99);
            due("dot to 0", x.dot(c[0], c[1], 0), 99);
            due("dot to 1", x.dot(c[0], c[1], 1), 0);
        }
        by(3, "UNKNOWN; OUTSIDE.");
        for (int v : justOutside(0, 99)) {
            due("dot(6, 3, " + v + ")", x.dot(6, 3, v), OUTSIDE);
            due("no such place ahead of grey " + v, x.dot(7, 3, v), UNKNOWN);
            due("no such place ahead of grey " + v, x.dot(6, 4, v), UNKNOWN);
        }
        for (int column : justOutside(0, 6)) due("dot, column " + column, x.dot(column, 3, 5), UNKNOWN);
        for (int row : justOutside(0, 3)) due("dot, row " + row, x.dot(6, row, 5), UNKNOWN);
        due("at(6, 3), as nothing was changed", x.at(6, 3), 1);
    }

    private static void atEveryEdge() {
        by(4, "The GREY at a place.");
        CopiedPatches x = new CopiedPatches();
        x.picture(5, 3);
        x.dot(0, 0, 1);
        x.dot(4, 0, 2);
        x.dot(0, 2, 3);
        x.dot(4, 2, 99);
        due("at(0, 0)", x.at(0, 0), 1);
        due("at(4, 0)", x.at(4, 0), 2);
        due("at(0, 2)", x.at(0, 2), 3);
        due("at(4, 2)", x.at(4, 2), 99);
        by(4, "UNKNOWN.");
        for (int column : justOutside(0, 4)) due("at, column " + column, x.at(column, 2), UNKNOWN);
        for (int row : justOutside(0, 2)) due("at, row " + row, x.at(4, row), UNKNOWN);
    }

    private static void raiseToTheEnds() {
        by(5, "become v more, 0 at least, 99 at most: how many became another one.");
        CopiedPatches x = drawn(new int[] {0, 1, 50, 98, 99});
        due("by 1", x.raise(0, 0, 5, 1, 1), 4);
        int[] higher = {1, 2, 51, 99, 99};
        for (int i = 0; i < 5; i++) due("at(" + i + ", 0)", x.at(i, 0), higher[i]);
        due("by -1", x.raise(0, 0, 5, 1, -1), 5);
        int[] lower = {0, 1, 50, 98, 98};
        for (int i = 0; i < 5; i++) due("at(" + i + ", 0)", x.at(i, 0), lower[i]);
        due("by -1 again", x.raise(0, 0, 5, 1, -1), 4);
        due("at(0, 0), 0 at least", x.at(0, 0), 0);
        due("by 0", x.raise(0, 0, 5, 1, 0), 0);
        raiseNoMoreThanTold();
        by(5, "v (-99 .. 99)");
        due("by 99", x.raise(0, 0, 5, 1, 99), 5);
        for (int i = 0; i < 5; i++) due("at(" + i + ", 0)", x.at(i, 0), 99);
        due("by 99, all are 99", x.raise(0, 0, 5, 1, 99), 0);
        due("by -98", x.raise(0, 0, 1, 1, -98), 1);
        due("at(0, 0)", x.at(0, 0), 1);
        due("by -99", x.raise(0, 0, 5, 1, -99), 5);
        for (int i = 0; i < 5; i++) due("at(" + i + ", 0)", x.at(i, 0), 0);
        due("by -99, all are 0", x.raise(0, 0, 5, 1, -99), 0);
        for (int v : justOutside(-99, 99)) due("by " + v, x.raise(0, 0, 5, 1, v), OUTSIDE);
        for (int i = 0; i < 5; i++) due("nothing was changed", x.at(i, 0), 0);
    }

    private static void raiseNoMoreThanTold() {
        by(5, "All GREYS of w columns and h rows from a place on");
        CopiedPatches x = new CopiedPatches();
        x.picture(6, 6);
        due("3 columns and 2 rows from (1, 2) on", x.raise(1, 2, 3, 2, 7), 6);
        for (int place = 0; place < 36; place++) {
            int column = place % 6, row = place / 6;
            boolean isRaised = column >= 1 && column <= 3 && row >= 2 && row <= 3;
            due("at(" + column + ", " + row + ")", x.at(column, row), isRaised ? 7 : 0);
        }
    }

    private static void raiseWithinThePicture() {
        by(5, "OUTSIDE: w, h (1 at least, within the PICTURE)");
        CopiedPatches x = new CopiedPatches();
        x.picture(7, 5);
        due("all of it", x.raise(0, 0, 7, 5, 1), 35);
        due("one place, the last", x.raise(6, 4, 1, 1, 1), 1);
        due("at(6, 4)", x.at(6, 4), 2);
        due("at(5, 4), beside it", x.at(5, 4), 1);
        due("up to the last column and row", x.raise(2, 3, 5, 2, 1), 10);
        due("at(2, 3)", x.at(2, 3), 2);
        due("at(1, 3), left of it", x.at(1, 3), 1);
        due("at(2, 2), above it", x.at(2, 2), 1);
        for (int w : justOutside(1, 5)) due("w " + w + " from column 2", x.raise(2, 3, w, 2, 1), OUTSIDE);
        for (int h : justOutside(1, 2)) due("h " + h + " from row 3", x.raise(2, 3, 5, h, 1), OUTSIDE);
        for (int w : justOutside(1, 7)) due("w " + w + " from column 0", x.raise(0, 0, w, 5, 1), OUTSIDE);
        for (int h : justOutside(1, 5)) due("h " + h + " from row 0", x.raise(0, 0, 7, h, 1), OUTSIDE);
        due("at(2, 3), as nothing was changed", x.at(2, 3), 2);
        due("at(0, 0), as nothing was changed", x.at(0, 0), 1);
        by(5, "UNKNOWN: the place;");
        for (int column : justOutside(0, 6)) {
            due("column " + column, x.raise(column, 4, 1, 1, 1), UNKNOWN);
            due("column " + column + ", w wrong, too", x.raise(column, 4, 0, 1, 1), UNKNOWN);
        }
        for (int row : justOutside(0, 4)) {
            due("row " + row, x.raise(6, row, 1, 1, 1), UNKNOWN);
            due("row " + row + ", v wrong, too", x.raise(6, row, 1, 1, 100), UNKNOWN);
        }
        due("at(6, 4), as nothing was changed", x.at(6, 4), 3);
    }

    /** What each place has after a patch of 3 by 3 has gone one place in each of eight directions. */
    private static void pasteOverItself() {
        by(6, "go to another place, as they were");
        for (int direction = 0; direction < 9; direction++) {
            int toX = direction % 3, toY = direction / 3;
            CopiedPatches x = new CopiedPatches();
            x.picture(5, 5);
            for (int i = 0; i < 25; i++) x.dot(i % 5, i / 5, 10 + i);
            due("paste to " + toX + ", " + toY, x.paste(1, 1, 3, 3, toX, toY), direction == 4 ? 0 : 9);
            for (int i = 0; i < 25; i++) {
                int column = i % 5, row = i / 5;
                boolean goes = column >= toX && column < toX + 3 && row >= toY && row < toY + 3;
                int from = goes ? 5 * (row - toY + 1) + column - toX + 1 : i;
                due("at(" + column + ", " + row + ")", x.at(column, row), 10 + from);
            }
        }
    }

    private static void pasteWithinThePicture() {
        by(6, "OUTSIDE: w, h (1 at least, within the PICTURE from both).");
        CopiedPatches x = new CopiedPatches();
        x.picture(8, 6);
        x.dot(7, 5, 50);
        due("one place, from the last", x.paste(7, 5, 1, 1, 0, 0), 1);
        due("one place, to the last", x.paste(0, 1, 1, 1, 7, 5), 1);
        due("as much as there is from column 3, row 2", x.paste(3, 2, 5, 4, 0, 0), 1);
        due("as much as there is to column 3, row 2", x.paste(0, 0, 5, 4, 3, 2), 0);
        x.dot(0, 0, 60);
        for (int w : justOutside(1, 5)) {
            due("w " + w + " from column 3", x.paste(3, 2, w, 4, 0, 0), OUTSIDE);
            due("w " + w + " to column 3", x.paste(0, 0, w, 4, 3, 2), OUTSIDE);
        }
        for (int h : justOutside(1, 4)) {
            due("h " + h + " from row 2", x.paste(3, 2, 5, h, 0, 0), OUTSIDE);
            due("h " + h + " to row 2", x.paste(0, 0, 5, h, 3, 2), OUTSIDE);
        }
        due("at(3, 2), as nothing was changed", x.at(3, 2), 0);
        due("at(0, 0), as nothing was changed", x.at(0, 0), 60);
        by(6, "how many became another one.");
        due("all of it to its own place", x.paste(0, 0, 8, 6, 0, 0), 0);
        due("one of four is another", x.paste(0, 0, 2, 2, 4, 4), 1);
        due("none of four is another", x.paste(0, 0, 2, 2, 4, 4), 0);
        pasteFromAndToNoPlace();
    }

    private static void pasteFromAndToNoPlace() {
        by(6, "UNKNOWN: either place;");
        CopiedPatches x = new CopiedPatches();
        x.picture(8, 6);
        x.dot(7, 5, 50);
        for (int column : justOutside(0, 7)) {
            due("from column " + column, x.paste(column, 5, 1, 1, 0, 0), UNKNOWN);
            due("to column " + column, x.paste(7, 5, 1, 1, column, 0), UNKNOWN);
            due("w wrong, too", x.paste(7, 5, 0, 1, column, 0), UNKNOWN);
        }
        for (int row : justOutside(0, 5)) {
            due("from row " + row, x.paste(7, row, 1, 1, 0, 0), UNKNOWN);
            due("to row " + row, x.paste(7, 5, 1, 1, 0, row), UNKNOWN);
            due("h wrong, too", x.paste(7, row, 1, 0, 0, 0), UNKNOWN);
        }
        due("at(0, 0), as nothing was changed", x.at(0, 0), 0);
    }

    private static void tuneToTheEnds() {
        by(7, SETTINGS_TOLD);
        CopiedPatches x = new CopiedPatches();
        for (int which = 0; which < 8; which++) {
            due("setting " + which + " to its least", x.tune(which, LOW[which]), AT_FIRST[which]);
            due("setting " + which + " to its greatest", x.tune(which, HIGH[which]), LOW[which]);
        }
        by(7, "OUTSIDE: which, v.");
        for (int which = 0; which < 8; which++) {
            for (int v : justOutside(LOW[which], HIGH[which])) {
                due("setting " + which + " to " + v, x.tune(which, v), OUTSIDE);
            }
        }
        for (int which : justOutside(0, 7)) {
            for (int v = 0; v < 4; v++) due("setting " + which, x.tune(which, v), OUTSIDE);
        }
        for (int which = 0; which < 8; which++) {
            due("nothing was changed", x.tune(which, LOW[which]), HIGH[which]);
        }
    }

    /** Marks that wrap, worked out with numbers of any length, then cut to 32 bits. */
    private static void markThatWraps() {
        by(8, "MARK: an int that wraps, 1 ahead of all, becomes 31 times it and each of the NUMBERS.");
        CopiedPatches x = new CopiedPatches();
        int[] ofBlack = {923_521, -196_513_505, 1_353_309_697};
        int[] ofMiddle = {2_462_721, -524_036_015, -686_141_439};
        int[] ofWhite = {3_971_137, -1_704_001_534, -1_911_709_439};
        for (int side = 2; side <= 4; side++) {
            x.tune(SIDE, side);
            due("SIDE " + side + ", all 0", x.mark(0, 0), ofBlack[side - 2]);
            x.raise(0, 0, 16, 16, 50);
            due("SIDE " + side + ", all 50", x.mark(16 - side, 16 - side), ofMiddle[side - 2]);
            x.raise(0, 0, 16, 16, 99);
            due("SIDE " + side + ", all 99", x.mark(16 - side, 0), ofWhite[side - 2]);
            x.tune(MANNER, RAISED);
            due("SIDE " + side + ", all 99, raised", x.mark(0, 0), ofBlack[side - 2]);
            x.tune(MANNER, PLAIN);
            x.raise(0, 0, 16, 16, -99);
        }
    }

    private static void markOfNone() {
        by(8, "UNKNOWN: 0 (there is none).");
        for (int side = 2; side <= 4; side++) {
            CopiedPatches x = new CopiedPatches();
            x.tune(SIDE, side);
            due("the last in the picture", x.mark(16 - side, 16 - side) != 0 ? 1 : 0, 1);
            for (int column : justOutside(0, 16 - side)) due("column " + column, x.mark(column, 0), 0);
            for (int row : justOutside(0, 16 - side)) due("row " + row, x.mark(0, row), 0);
            x.picture(side, side);
            due("as large as a square", x.mark(0, 0) != 0 ? 1 : 0, 1);
            x.picture(side - 1, 16);
            due("too narrow for a square", x.mark(0, 0), 0);
            x.picture(16, side - 1);
            due("too low for a square", x.mark(0, 0), 0);
        }
    }

    private static void squaresWithinThePicture() {
        by(9, "SQUARES of SIDE by SIDE places that lie within the PICTURE");
        for (int side = 2; side <= 4; side++) {
            CopiedPatches x = new CopiedPatches();
            x.tune(SIDE, side);
            int last = 16 - side;
            due("the first", x.square(0, 0, 0), 0);
            due("the last", x.square(last, last, 0), 0);
            x.dot(15, 15, 7);
            due("the last has the last place", x.square(last, last, 1), 7);
            due("the one beside it has not", x.square(last - 1, last, 1), 0);
            for (int column : justOutside(0, last)) due("column " + column, x.square(column, 0, 0), UNKNOWN);
            for (int row : justOutside(0, last)) due("row " + row, x.square(0, row, 0), UNKNOWN);
            x.picture(side, side);
            due("as large as a square", x.square(0, 0, 4), 1);
            due("beside the only one", x.square(1, 0, 4), UNKNOWN);
            due("below the only one", x.square(0, 1, 4), UNKNOWN);
            x.picture(side - 1, 16);
            due("too narrow for a square", x.square(0, 0, 4), UNKNOWN);
            x.picture(16, side - 1);
            due("too low for a square", x.square(0, 0, 4), UNKNOWN);
        }
    }

    /** What was a square with a lesser SIDE, or in a larger picture, is in no pair any more. */
    private static void squaresThatWere() {
        by(9, "SQUARES of SIDE by SIDE places that lie within the PICTURE");
        CopiedPatches x = new CopiedPatches();
        x.picture(16, 3);
        x.tune(SIDE, 2);
        for (int column = 1; column <= 13; column += 4) x.dot(column, 2, 9);
        due("SIDE 2, squares", x.many(0), 30);
        due("SIDE 2, pairs", x.many(4), 2 * 6);
        x.tune(SIDE, 3);
        due("SIDE 3, squares", x.many(0), 14);
        due("SIDE 3, pairs", x.many(4), 3 + 6 + 6);
        x.tune(SIDE, 4);
        due("SIDE 4, squares", x.many(0), 0);
        due("SIDE 4, pairs", x.many(4), 0);
        x.tune(SIDE, 2);
        x.many(4);
        x.picture(16, 2);
        x.dot(1, 1, 9);
        x.dot(9, 1, 9);
        due("2 rows, squares", x.many(0), 15);
        due("2 rows, pairs", x.many(4), 2);
        x.picture(10, 2);
        due("10 columns, squares", x.many(0), 9);
        due("10 columns, pairs", x.many(4), 0);
    }

    private static void numbersAreCutDown() {
        by(9, "PLAIN: the GREY by STEP; RAISED: the GREY less the least GREY of the SQUARE,"
                + " by STEP (cut down to whole numbers).");
        CopiedPatches x = drawn(new int[] {19, 20}, new int[] {39, 99});
        x.tune(SIDE, 2);
        dueNumbers("STEP 1", x, 19, 20, 39, 99);
        x.tune(MANNER, RAISED);
        dueNumbers("STEP 1, raised", x, 0, 1, 20, 80);
        x.tune(STEP, 20);
        dueNumbers("STEP 20, raised", x, 0, 0, 1, 4);
        x.tune(MANNER, PLAIN);
        dueNumbers("STEP 20", x, 0, 1, 1, 4);
        x.tune(STEP, 19);
        dueNumbers("STEP 19", x, 1, 1, 2, 5);
        x.tune(STEP, 2);
        dueNumbers("STEP 2", x, 9, 10, 19, 49);
        x.tune(MANNER, RAISED);
        dueNumbers("STEP 2, raised", x, 0, 0, 10, 40);
    }

    private static void dueNumbers(String setting, CopiedPatches x, int... numbers) {
        for (int i = 0; i < numbers.length; i++) {
            due(setting + ", NUMBER " + i, x.square(0, 0, 10 + i), numbers[i]);
        }
    }

    private static void notSoManyNumbers() {
        by(9, "10 and i NUMBER i (NONE: there are not so many)");
        CopiedPatches x = new CopiedPatches();
        x.picture(4, 4);
        for (int i = 0; i < 16; i++) x.dot(i % 4, i / 4, 99 - 6 * i);
        for (int side = 2; side <= 4; side++) {
            x.tune(SIDE, side);
            for (int i = 0; i < 16; i++) {
                int grey = 99 - 6 * (4 * (i / side) + i % side);
                due("SIDE " + side + ", NUMBER " + i, x.square(0, 0, 10 + i), i < side * side ? grey : NONE);
            }
        }
    }

    private static void whatOfASquare() {
        by(9, "UNKNOWN; OUTSIDE: what (0 .. 5, 10 .. 25).");
        CopiedPatches x = new CopiedPatches();
        x.tune(SIDE, 4);
        x.dot(3, 3, 8);
        due("what 0", x.square(0, 0, 0), 0);
        due("what 1", x.square(0, 0, 1), 8);
        due("what 5", x.square(0, 0, 5), 0);
        due("what 10", x.square(0, 0, 10), 0);
        due("what 25", x.square(0, 0, 25), 8);
        for (int what : new int[] {-1, 6, 7, 8, 9, 26, 100, LOWEST, HIGHEST}) {
            due("what " + what, x.square(0, 0, what), OUTSIDE);
            due("no such square ahead of what " + what, x.square(13, 0, what), UNKNOWN);
            due("no such square ahead of what " + what, x.square(0, -1, what), UNKNOWN);
        }
    }

    private static void flatToTheBrim() {
        by(9, "It is FLAT, if its greatest GREY is no more than FLATNESS above its least.");
        CopiedPatches x = new CopiedPatches();
        x.picture(2, 2);
        x.tune(SIDE, 2);
        due("all alike, FLATNESS 0", x.square(0, 0, 2), 1);
        x.dot(1, 1, 1);
        due("1 above, FLATNESS 0", x.square(0, 0, 2), 0);
        x.tune(FLATNESS, 1);
        due("1 above, FLATNESS 1", x.square(0, 0, 2), 1);
        x.raise(0, 0, 2, 2, 40);
        x.dot(0, 1, 90);
        x.tune(FLATNESS, 49);
        due("50 above, FLATNESS 49", x.square(0, 0, 2), 0);
        x.tune(FLATNESS, 50);
        due("50 above, FLATNESS 50", x.square(0, 0, 2), 1);
        x.dot(0, 0, 0);
        x.dot(0, 1, 99);
        x.tune(FLATNESS, 98);
        due("99 above, FLATNESS 98", x.square(0, 0, 2), 0);
        x.tune(FLATNESS, 99);
        due("99 above, FLATNESS 99", x.square(0, 0, 2), 1);
        x.tune(STEP, 20);
        x.tune(FLATNESS, 98);
        due("by GREYS, not by NUMBERS", x.square(0, 0, 2), 0);
    }

    private static void crowdedByOneTooMany() {
        by(9, "CROWDED are SQUARES that are not FLAT and with which, themselves counted,"
                + " more than CROWD that are not FLAT are ALIKE.");
        CopiedPatches x = dotted(1);
        x.tune(STEP, 20);
        x.tune(CROWD, 2);
        due("two that are not flat, CROWD 2", x.square(0, 0, 3), 0);
        due("though all 15 are alike", x.square(0, 0, 4), 15);
        x.dot(15, 0, 9);
        due("three that are not flat, CROWD 2", x.square(0, 0, 3), 1);
        due("the last of them", x.square(14, 0, 3), 1);
        due("a flat one between them", x.square(5, 0, 3), 0);
        due("all crowded ones", x.many(2), 3);
        x.tune(CROWD, 3);
        due("three that are not flat, CROWD 3", x.square(0, 0, 3), 0);
        CopiedPatches twenty = striped(11, 5);
        twenty.tune(CROWD, 20);
        due("20 of each kind", twenty.square(0, 0, 4), 20);
        due("20 alike, CROWD 20", twenty.square(0, 0, 3), 0);
        due("none is crowded", twenty.many(2), 0);
        twenty.tune(CROWD, 19);
        due("20 alike, CROWD 19", twenty.square(0, 0, 3), 1);
        CopiedPatches more = striped(15, 4);
        more.tune(CROWD, 20);
        due("21 of each kind", more.square(13, 2, 4), 21);
        due("21 alike, CROWD 20", more.square(13, 2, 3), 1);
        due("all are crowded", more.many(2), 42);
    }

    private static void alikeAndInPairs() {
        by(9, "4 how many are ALIKE with it (itself counted, FLAT ones, too)");
        CopiedPatches x = dotted(1, 5);
        due("the only one of its kind", dotted(1).square(0, 0, 4), 1);
        due("one of two", x.square(0, 0, 4), 2);
        due("one of eleven flat ones", x.square(7, 0, 4), 11);
        CopiedPatches blank = new CopiedPatches();
        blank.tune(SIDE, 2);
        due("all there can be", blank.square(14, 14, 4), 225);
        by(9, "Two are ALIKE, if their NUMBERS are the same.");
        x.dot(5, 0, 10);
        due("9 and 10 by STEP 1", x.square(0, 0, 4), 1);
        x.tune(STEP, 5);
        due("9 and 10 by STEP 5", x.square(0, 0, 4), 1);
        x.tune(STEP, 3);
        due("9 and 10 by STEP 3", x.square(0, 0, 4), 2);
        by(9, "5 in how many PAIRS it is");
        due("in none, as it is flat", x.square(7, 0, 5), 0);
        due("as the first of one", x.square(0, 0, 5), 1);
        due("as the second of one", x.square(4, 0, 5), 1);
        x.tune(REACH, 5);
        due("in none, as the other is too near", x.square(0, 0, 5), 0);
        due("in as many as there can be", tiled().square(14, 12, 5), 19);
        due("of a kind of 15", tiled().square(14, 11, 5), 14);
        CopiedPatches full = fullest();
        int together = 0;
        for (int place = 0; place < 225; place++) together += full.square(place % 15, place / 15, 5);
        due("each of as many pairs as there can be has two", together, 2 * MOST_PAIRS);
    }

    private static void inOrderFromFirstToLast() {
        by(10, "The number of the place of the k-th SQUARE in ORDER (from 0).");
        CopiedPatches x = new CopiedPatches();
        x.tune(SIDE, 2);
        due("the first of 225", x.inOrder(0), 0);
        due("the last of 225", x.inOrder(224), 16 * 14 + 14);
        by(10, "UNKNOWN.");
        for (int k : justOutside(0, 224)) due("inOrder(" + k + ")", x.inOrder(k), UNKNOWN);
        x.picture(2, 2);
        due("the only one", x.inOrder(0), 0);
        for (int k : justOutside(0, 0)) due("inOrder(" + k + ")", x.inOrder(k), UNKNOWN);
        x.picture(16, 1);
        for (int k = -1; k <= 1; k++) due("no square, inOrder(" + k + ")", x.inOrder(k), UNKNOWN);
        by(10, "The place in column x and row y has the number 16 y + x.");
        x.picture(3, 16);
        for (int k = 0; k < 30; k++) due("inOrder(" + k + ")", x.inOrder(k), 16 * (k / 2) + k % 2);
        due("inOrder(30)", x.inOrder(30), UNKNOWN);
    }

    private static void inOrderByNumbers() {
        by(10, "ORDER: by NUMBERS (the first that differ), ALIKE ones by their places.");
        CopiedPatches x = drawn(new int[] {2, 0, 0, 1, 99}, new int[] {0, 0, 0, 99, 99});
        x.tune(SIDE, 2);
        int[] order = {1, 2, 3, 0};
        for (int k = 0; k < 4; k++) due("the first that differs: inOrder(" + k + ")", x.inOrder(k), order[k]);
        for (int side = 2; side <= 4; side++) lastNumberDiffers(side);
        CopiedPatches alike = dotted(1, 5, 9, 13);
        alike.tune(STEP, 10);
        for (int k = 0; k < 15; k++) due("alike by STEP: inOrder(" + k + ")", alike.inOrder(k), k);
        alike.tune(STEP, 9);
        due("by STEP 9 the last has a NUMBER 1 first", alike.inOrder(14), 13);
    }

    /** Of the squares with the one place of 51 that goes first in which it is the last number. */
    private static void lastNumberDiffers(int side) {
        CopiedPatches x = new CopiedPatches();
        x.picture(16, side);
        x.tune(SIDE, side);
        x.raise(0, side - 1, 16, 1, 50);
        x.dot(side - 1, side - 1, 51);
        int alike = 17 - 2 * side;
        for (int k = 0; k < alike; k++) due("alike, SIDE " + side, x.inOrder(k), side + k);
        for (int k = 0; k < side; k++) due("unlike, SIDE " + side, x.inOrder(alike + k), k);
    }

    public static void main(String[] args) {
        newObject();
        pictureOfLeastAndGreatestSize();
        pictureIsEmpty();
        dotOfLeastAndGreatestGrey();
        atEveryEdge();
        raiseToTheEnds();
        raiseWithinThePicture();
        pasteOverItself();
        pasteWithinThePicture();
        tuneToTheEnds();
        markThatWraps();
        markOfNone();
        squaresWithinThePicture();
        squaresThatWere();
        numbersAreCutDown();
        notSoManyNumbers();
        whatOfASquare();
        flatToTheBrim();
        crowdedByOneTooMany();
        alikeAndInPairs();
        inOrderFromFirstToLast();
        inOrderByNumbers();
        endOfQuote();
        Due.end();
    }
}
