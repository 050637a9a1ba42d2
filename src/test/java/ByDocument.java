/** What the tests of the document's sentences share: its numbers, quotes of it, and pictures. */
abstract class ByDocument {
    static final int UNKNOWN = -1, OUTSIDE = -2, NONE = -9;
    static final int SIDE = 0, STEP = 1, MANNER = 2, FLATNESS = 3;
    static final int REACH = 4, CROWD = 5, LEAST = 6, SLACK = 7;
    static final int PLAIN = 0, RAISED = 1;
    static final int LOWEST = Integer.MIN_VALUE, HIGHEST = Integer.MAX_VALUE;
    static final int[] LOW = {2, 1, 0, 0, 1, 2, 1, 0};
    static final int[] HIGH = {4, 20, 1, 99, 15, 20, 99, 30};
    static final int[] AT_FIRST = {3, 1, 0, 0, 3, 8, 1, 0};
    static final int MOST_PAIRS = 11 * 190 + 10;
    private static final String[] FULLEST = {
        "1111111111111111", "0101010010000101", "1010001101010000", "1111010111111010",
        "0010000001010100", "1111101010001110", "0010111101010100", "0111000010111010",
        "0000010101101100", "0101000010111001", "0011110111010010", "0110101010001001",
        "0000011111010100", "1010110101100001", "1111101011010111", "0000000000000000"};

    private static String quoted = "";
    private static int askedAhead = -1;

    /** Until the next quote, answers are due by this sentence of the document, told of this promise. */
    static void by(int promise, String sentence) {
        endOfQuote();
        quoted = "promise " + promise + ", '" + sentence + "'";
        askedAhead = Due.askedSoFar();
    }

    /** A quote that nothing was asked by would look like a test and be none. */
    static void endOfQuote() {
        Due.isTrue(quoted + " is asked by", Due.askedSoFar() > askedAhead);
    }

    static void due(String call, int got, int want) {
        Due.is(quoted + ": " + call, got, want);
    }

    static int[] justOutside(int least, int greatest) {
        return new int[] {least - 1, greatest + 1, LOWEST, HIGHEST};
    }

    /** Rows of greys, one row of the picture each. */
    static CopiedPatches drawn(int[]... rows) {
        CopiedPatches drawn = new CopiedPatches();
        drawn.picture(rows[0].length, rows.length);
        for (int y = 0; y < rows.length; y++) {
            for (int x = 0; x < rows[y].length; x++) {
                if (rows[y][x] != 0) drawn.dot(x, y, rows[y][x]);
            }
        }
        return drawn;
    }

    /** Dots of grey in a row 16 columns wide and 2 high, SIDE 2, at the columns told. */
    static CopiedPatches dotted(int... columns) {
        CopiedPatches dotted = new CopiedPatches();
        dotted.picture(16, 2);
        dotted.tune(SIDE, 2);
        for (int x : columns) dotted.dot(x, 0, 9);
        return dotted;
    }

    static int greyOfTexture(int x, int y) {
        return ((3 + 2 * y) * x + 11 * y) % 97;
    }

    /**
     * No two squares are alike, be they raised or not, and none is flat: the steps to the right differ
     * from row to row, those down from column to column. A shift within a row, or straight down,
     * misses at every place.
     */
    static CopiedPatches textured(int w, int h) {
        CopiedPatches textured = new CopiedPatches();
        textured.picture(w, h);
        textured.tune(SIDE, 2);
        for (int y = 0; y < h; y++) {
            for (int x = 0; x < w; x++) {
                if (greyOfTexture(x, y) != 0) textured.dot(x, y, greyOfTexture(x, y));
            }
        }
        return textured;
    }

    /**
     * Tiles of 3 by 4 unlike greys fill the greatest picture: of the 12 kinds of squares of SIDE 2
     * nine have 20 squares, as many as the greatest CROWD lets pass, and three have 15.
     */
    static CopiedPatches tiled() {
        CopiedPatches tiled = new CopiedPatches();
        tiled.tune(SIDE, 2);
        tiled.tune(REACH, 1);
        tiled.tune(CROWD, 20);
        for (int i = 0; i < 12; i++) tiled.dot(i % 3, i / 3, 1 + 8 * i);
        tiled.paste(0, 0, 3, 4, 0, 4);
        tiled.paste(0, 0, 3, 8, 0, 8);
        tiled.paste(0, 0, 3, 16, 3, 0);
        tiled.paste(0, 0, 6, 16, 6, 0);
        tiled.paste(0, 0, 4, 16, 12, 0);
        return tiled;
    }

    /**
     * As many pairs as there can be: no picture has more than 225 squares, and no kind more than 20 that
     * pair up, for CROWD is 20 at most; of these 11 kinds have 20 squares and one the 5 that are left.
     */
    static CopiedPatches fullest() {
        CopiedPatches fullest = new CopiedPatches();
        fullest.tune(SIDE, 2);
        fullest.tune(REACH, 1);
        fullest.tune(CROWD, 20);
        for (int place = 0; place < 256; place++) {
            if (greyOfFullest(place) != 0) fullest.dot(place % 16, place / 16, greyOfFullest(place));
        }
        return fullest;
    }

    static int greyOfFullest(int place) {
        return FULLEST[place / 16].charAt(place % 16) == '1' ? 9 : 0;
    }

    /** Columns of 0 and 9 in turn: squares of SIDE 2 are of two kinds in turn. */
    static CopiedPatches striped(int w, int h) {
        CopiedPatches striped = new CopiedPatches();
        striped.picture(w, h);
        striped.tune(SIDE, 2);
        for (int x = 1; x < w; x += 2) striped.raise(x, 0, 1, h, 9);
        return striped;
    }

    /**
     * In each of the first four rows of patches one of 2 by 2 places stands four times, 3 columns
     * apart: three regions of one pair by dx 3, two by dx 6, one by dx 9; all in all 24.
     */
    static CopiedPatches patched() {
        CopiedPatches patched = textured(12, 14);
        for (int y = 0; y <= 9; y += 3) {
            for (int x = 3; x <= 9; x += 3) patched.paste(0, y, 2, 2, x, y);
        }
        return patched;
    }
}
