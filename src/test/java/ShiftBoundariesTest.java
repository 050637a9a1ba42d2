/** Promises 11 to 13: each sentence that names a boundary case, quoted, with the cases on both sides. */
public final class ShiftBoundariesTest extends ByDocument {

    private ShiftBoundariesTest() {
    }

    private static void noPair() {
        by(11, "UNKNOWN; OUTSIDE.");
        CopiedPatches[] without = {new CopiedPatches(), dotted(), dotted(1), textured(5, 5)};
        for (CopiedPatches x : without) {
            due("how many", x.many(4), 0);
            for (int k = -1; k <= 1; k++) {
                due("pair(" + k + ", 0)", x.pair(k, 0), UNKNOWN);
                due("pair(" + k + ", 2)", x.pair(k, 2), UNKNOWN);
            }
        }
        CopiedPatches one = textured(7, 2);
        one.paste(0, 0, 2, 2, 5, 0);
        due("the only one's first", one.pair(0, 0), 0);
        due("the only one's second", one.pair(0, 1), 5);
        for (int k : justOutside(0, 0)) {
            due("pair(" + k + ", 0)", one.pair(k, 0), UNKNOWN);
            due("no such pair ahead of what 2", one.pair(k, 2), UNKNOWN);
        }
        for (int what : justOutside(0, 1)) due("what " + what, one.pair(0, what), OUTSIDE);
    }

    private static void asManyPairs() {
        by(11, "Of the k-th PAIR (from 0), by the first place's number, then the second's");
        CopiedPatches x = tiled();
        due("how many", x.many(4), 9 * 190 + 3 * 105);
        int[] seconds = {3, 6, 9, 12, 64, 67};
        for (int k = 0; k < seconds.length; k++) {
            due("the first one's, pair(" + k + ", 0)", x.pair(k, 0), 0);
            due("the first one's, pair(" + k + ", 1)", x.pair(k, 1), seconds[k]);
        }
        due("the 20th, first", x.pair(19, 0), 1);
        due("the 20th, second", x.pair(19, 1), 4);
        due("the last, first", x.pair(2024, 0), 16 * 14 + 11);
        due("the last, second", x.pair(2024, 1), 16 * 14 + 14);
        due("behind the last", x.pair(2025, 0), UNKNOWN);
        x.tune(CROWD, 19);
        due("those of kinds of 15", x.many(4), 3 * 105);
        due("the first of them", x.pair(0, 0), 16 * 3);
        due("behind the last of them", x.pair(315, 1), UNKNOWN);
    }

    /** Each pair is asked for, of as many objects as that takes. */
    private static void asManyPairsAsThereCanBe() {
        by(11, "Of the k-th PAIR (from 0), by the first place's number, then the second's");
        PlainPatches plain = plainFullest();
        due("how many by the document", plain.many(4), MOST_PAIRS);
        CopiedPatches x = fullest();
        due("how many", x.many(4), MOST_PAIRS);
        for (int k = 0; k < MOST_PAIRS; k++) {
            if (k % 150 == 0) x = fullest();
            due("pair(" + k + ", 0)", x.pair(k, 0), plain.pair(k, 0));
            due("pair(" + k + ", 1)", x.pair(k, 1), plain.pair(k, 1));
        }
        due("the last, first", x.pair(MOST_PAIRS - 1, 0), 16 * 14 + 13);
        due("the last, second", x.pair(MOST_PAIRS - 1, 1), 16 * 14 + 14);
        due("behind the last", x.pair(MOST_PAIRS, 0), UNKNOWN);
        x.tune(CROWD, 19);
        due("those of the kind of 5", x.many(4), 10);
        x.tune(CROWD, 4);
        due("none, as all are crowded", x.many(4), 0);
        votesOfAsManyPairs(plain);
    }

    private static void votesOfAsManyPairs(PlainPatches plain) {
        by(12, "VOTES of a SHIFT: how many PAIRS have it.");
        int together = 0;
        CopiedPatches x = fullest();
        for (int way = 0; way < 31 * 16; way++) {
            if (way % 300 == 0) x = fullest();
            int dx = way % 31 - 15, dy = way / 31;
            int votes = x.votes(dx, dy);
            due("votes(" + dx + ", " + dy + ")", votes, plain.votes(dx, dy));
            together += votes;
        }
        due("all together", together, MOST_PAIRS);
        by(13, "Of SHIFT k:");
        x = fullest();
        for (int k = 0; k < 8; k++) {
            for (int what = 0; what < 4; what++) {
                due("shift(" + k + ", " + what + ")", x.shift(k, what), plain.shift(k, what));
            }
        }
    }

    private static PlainPatches plainFullest() {
        PlainPatches plain = new PlainPatches();
        plain.tune(SIDE, 2);
        plain.tune(REACH, 1);
        plain.tune(CROWD, 20);
        for (int place = 0; place < 256; place++) plain.dot(place % 16, place / 16, greyOfFullest(place));
        return plain;
    }

    private static void flatOnesAndCrowdedOnes() {
        by(11, "A PAIR: two SQUARES that are ALIKE, neither FLAT nor CROWDED");
        CopiedPatches x = new CopiedPatches();
        x.picture(16, 2);
        x.tune(SIDE, 2);
        x.tune(STEP, 20);
        x.tune(FLATNESS, 5);
        x.dot(1, 0, 6);
        x.dot(9, 0, 5);
        due("one of two alike is flat", x.many(4), 0);
        x.dot(9, 0, 6);
        due("neither is flat: two with two", x.many(4), 4);
        x.tune(CROWD, 4);
        due("as many as CROWD", x.many(4), 4);
        x.tune(CROWD, 3);
        due("one more than CROWD", x.many(4), 0);
        x.tune(CROWD, 4);
        x.tune(FLATNESS, 6);
        due("both are flat", x.many(4), 0);
    }

    /** The greys are the same from right above to left below: the second square is left of the first. */
    private static CopiedPatches slanting() {
        CopiedPatches x = drawn(new int[] {1, 20, 50}, new int[] {20, 50, 70}, new int[] {50, 70, 99});
        x.tune(SIDE, 2);
        x.tune(REACH, 1);
        return x;
    }

    private static void firstOfAPair() {
        by(11, "the first is the one whose place has the lesser number");
        CopiedPatches x = slanting();
        due("how many", x.many(4), 1);
        due("the first, above", x.pair(0, 0), 1);
        due("the second, below on the left", x.pair(0, 1), 16);
    }

    private static void asFarAsReach() {
        by(11, "dx or dy, or either less than 0 the other way, is REACH at least (else it is no PAIR).");
        CopiedPatches across = textured(16, 2);
        across.paste(0, 0, 2, 2, 14, 0);
        duePairsUpTo("dx 14", across, 14);
        CopiedPatches down = textured(2, 16);
        down.paste(0, 0, 2, 2, 0, 14);
        duePairsUpTo("dy 14", down, 14);
        CopiedPatches left = textured(9, 6);
        left.paste(7, 0, 2, 2, 2, 2);
        duePairsUpTo("dx -5, dy 2", left, 5);
        CopiedPatches right = textured(9, 6);
        right.paste(0, 0, 2, 2, 2, 4);
        duePairsUpTo("dx 2, dy 4", right, 4);
        CopiedPatches even = textured(9, 6);
        even.paste(0, 0, 2, 2, 3, 3);
        duePairsUpTo("dx 3, dy 3", even, 3);
        CopiedPatches beside = drawn(new int[] {5, 5, 5}, new int[] {9, 9, 9});
        beside.tune(SIDE, 2);
        duePairsUpTo("dx 1", beside, 1);
        duePairsUpTo("dx -1, dy 1", slanting(), 1);
    }

    private static void duePairsUpTo(String shift, CopiedPatches x, int far) {
        for (int reach = 1; reach <= 15; reach++) {
            x.tune(REACH, reach);
            due(shift + ", REACH " + reach, x.many(4), reach <= far ? 1 : 0);
        }
    }

    /** Squares at opposite corners: dots that only they have at the same place of theirs. */
    private static CopiedPatches cornered() {
        CopiedPatches x = new CopiedPatches();
        x.tune(SIDE, 2);
        x.tune(REACH, 14);
        x.dot(0, 0, 5);
        x.dot(14, 14, 5);
        x.dot(15, 0, 7);
        x.dot(1, 14, 7);
        return x;
    }

    private static void votesOfTheFarthest() {
        by(12, "OUTSIDE: dx (-15 .. 15), dy (0 .. 15).");
        CopiedPatches x = cornered();
        due("votes(14, 14)", x.votes(14, 14), 1);
        due("votes(-14, 14)", x.votes(-14, 14), 1);
        due("votes(15, 15), which no pair can have", x.votes(15, 15), 0);
        due("votes(-15, 15), which no pair can have", x.votes(-15, 15), 0);
        due("votes(15, 0), which no pair can have", x.votes(15, 0), 0);
        due("votes(-15, 0), which no pair can have", x.votes(-15, 0), 0);
        for (int dx : justOutside(-15, 15)) {
            due("votes(" + dx + ", 0)", x.votes(dx, 0), OUTSIDE);
            due("votes(" + dx + ", 15)", x.votes(dx, 15), OUTSIDE);
        }
        for (int dy : justOutside(0, 15)) {
            due("votes(0, " + dy + ")", x.votes(0, dy), OUTSIDE);
            due("votes(-15, " + dy + ")", x.votes(-15, dy), OUTSIDE);
        }
        due("both wrong", x.votes(16, -1), OUTSIDE);
        due("votes(14, 14), as nothing was changed", x.votes(14, 14), 1);
    }

    private static void votesOfNoneAndOfMost() {
        by(12, "VOTES of a SHIFT: how many PAIRS have it.");
        CopiedPatches blank = new CopiedPatches();
        for (int dx = -15; dx <= 15; dx++) due("none, dx " + dx, blank.votes(dx, (dx + 15) / 2), 0);
        CopiedPatches x = slanting();
        due("votes(-1, 1)", x.votes(-1, 1), 1);
        due("votes(1, 1), the other side", x.votes(1, 1), 0);
        due("votes(1, 0)", x.votes(1, 0), 0);
        due("votes(0, 0), of a square with itself", x.votes(0, 0), 0);
        CopiedPatches row = dotted(1, 5, 9);
        due("votes(4, 0)", row.votes(4, 0), 4);
        due("votes(-4, 0), from the second to the first", row.votes(-4, 0), 0);
        CopiedPatches most = tiled();
        due("votes(3, 0)", most.votes(3, 0), 12 * 15);
        due("votes(0, 4)", most.votes(0, 4), 15 * 11);
        due("votes(-3, 4)", most.votes(-3, 4), 12 * 11);
        due("votes(-12, 12)", most.votes(-12, 12), 3 * 3);
        int together = 0;
        for (int dy = 0; dy <= 12; dy += 4) {
            for (int dx = -12; dx <= 12; dx += 3) together += most.votes(dx, dy);
        }
        due("all together", together, 2025);
    }

    /** Columns 6 apart are the same in 12 rows: dx 6 has 9 by 11 pairs. */
    private static CopiedPatches ninetyNine() {
        CopiedPatches x = new CopiedPatches();
        x.picture(16, 12);
        x.tune(SIDE, 2);
        for (int i = 0; i < 72; i++) x.dot(i % 6, i / 6, 1 + i);
        x.paste(0, 0, 6, 12, 6, 0);
        x.paste(0, 0, 4, 12, 12, 0);
        return x;
    }

    private static void leastVotes() {
        by(13, "Those with LEAST VOTES at least are in an order");
        CopiedPatches x = ninetyNine();
        x.tune(LEAST, 99);
        due("votes(6, 0)", x.votes(6, 0), 99);
        due("99 votes, LEAST 99", x.many(5), 1);
        due("its votes", x.shift(0, 2), 99);
        x.dot(15, 11, 99);
        due("one fewer", x.votes(6, 0), 98);
        due("98 votes, LEAST 99", x.many(5), 0);
        due("shift(0, 2), 98 votes, LEAST 99", x.shift(0, 2), UNKNOWN);
        x.tune(LEAST, 98);
        due("98 votes, LEAST 98", x.many(5), 1);
        CopiedPatches single = slanting();
        due("1 vote, LEAST 1", single.many(5), 1);
        single.tune(LEAST, 2);
        due("1 vote, LEAST 2", single.many(5), 0);
        by(12, "VOTES of a SHIFT (be they fewer than LEAST).");
        due("1 vote, LEAST 2", single.votes(-1, 1), 1);
        single.tune(LEAST, 99);
        due("1 vote, LEAST 99", single.votes(-1, 1), 1);
        x.tune(LEAST, 99);
        due("98 votes, LEAST 99", x.votes(6, 0), 98);
    }

    private static void noShift() {
        by(13, "UNKNOWN; OUTSIDE.");
        CopiedPatches[] without = {new CopiedPatches(), dotted(1), textured(5, 5)};
        for (CopiedPatches x : without) {
            due("how many", x.many(5), 0);
            for (int k = -1; k <= 1; k++) {
                for (int what = -1; what <= 4; what++) {
                    due("shift(" + k + ", " + what + ")", x.shift(k, what), UNKNOWN);
                }
            }
        }
        CopiedPatches one = slanting();
        int[] wants = {99, 1, 1, 1};
        for (int what = 0; what < 4; what++) due("shift(0, " + what + ")", one.shift(0, what), wants[what]);
        for (int k : justOutside(0, 0)) {
            due("shift(" + k + ", 0)", one.shift(k, 0), UNKNOWN);
            due("no such shift ahead of what 4", one.shift(k, 4), UNKNOWN);
        }
        for (int what : justOutside(0, 3)) due("what " + what, one.shift(0, what), OUTSIDE);
        by(13, "0 dx and 100");
        CopiedPatches corners = cornered();
        due("dx -14 and 100", corners.shift(0, 0), 86);
        due("dx 14 and 100", corners.shift(1, 0), 114);
        due("dy 14", corners.shift(1, 1), 14);
    }

    /** Dots at unlike distances; the last, at the edge, has one square where the others have two. */
    private static void firstEight() {
        by(13, "the first 8 of them (all, if there are no more) are the SHIFTS, numbered so.");
        CopiedPatches x = dotted(1, 3, 7, 10, 15);
        x.tune(REACH, 2);
        dueAcross("10 of them", x, 2, 3, 4, 6, 7, 9, 5, 8);
        x.tune(REACH, 3);
        dueAcross("9 of them", x, 3, 4, 6, 7, 9, 5, 8, 12);
        x.tune(REACH, 4);
        dueAcross("8 of them", x, 4, 6, 7, 9, 5, 8, 12, 14);
        x.tune(REACH, 5);
        dueAcross("7 of them", x, 6, 7, 9, 5, 8, 12, 14);
        x.tune(LEAST, 2);
        dueAcross("those with 2 votes", x, 6, 7, 9);
        x.tune(REACH, 14);
        x.tune(LEAST, 1);
        dueAcross("1 of them", x, 14);
        x.tune(REACH, 15);
        dueAcross("none of them", x);
    }

    private static void dueAcross(String which, CopiedPatches x, int... across) {
        due(which + ", how many", x.many(5), across.length);
        for (int k = 0; k < across.length; k++) {
            due(which + ", shift " + k, x.shift(k, 0), 100 + across[k]);
            due(which + ", regions of shift " + k, x.shift(k, 3), 1);
        }
        due(which + ", behind the last", x.shift(across.length, 0), UNKNOWN);
    }

    private static void moreVotesAhead() {
        by(13, "that with more VOTES ahead");
        CopiedPatches x = tiled();
        int[][] wants = {{103, 0, 180}, {100, 4, 165}, {106, 0, 135}, {97, 4, 132}, {103, 4, 132},
            {100, 8, 105}, {94, 4, 99}, {106, 4, 99}};
        for (int k = 0; k < 8; k++) {
            for (int what = 0; what < 3; what++) {
                due("shift(" + k + ", " + what + ")", x.shift(k, what), wants[k][what]);
            }
        }
        due("shift(8, 0)", x.shift(8, 0), UNKNOWN);
        x.tune(LEAST, 99);
        due("LEAST 99, how many", x.many(5), 8);
        due("LEAST 99, the last has 99", x.shift(7, 2), 99);
    }

    /** Dots of a grey of their own, two of each: a shift of four votes each, all of one length. */
    private static void evenVotes() {
        by(13, "of several that with the lesser dx (above 0, or the other way) and dy together,"
                + " of these that with the lesser dy, of these that with the lesser dx");
        int[][] dots = {{4, 10, 10, 10}, {9, 3, 5, 5}, {6, 10, 10, 12}, {8, 11, 5, 14}, {10, 1, 13, 4},
            {14, 8, 12, 12}, {12, 8, 14, 12}, {9, 8, 8, 13}, {2, 3, 2, 9}};
        int[][] order = {{6, 0}, {-4, 2}, {4, 2}, {-3, 3}, {3, 3}, {-2, 4}, {2, 4}, {-1, 5}, {0, 6}};
        CopiedPatches x = new CopiedPatches();
        x.tune(SIDE, 2);
        for (int i = dots.length - 1; i >= 0; i--) {
            x.dot(dots[i][0], dots[i][1], 90 - 7 * i);
            x.dot(dots[i][2], dots[i][3], 90 - 7 * i);
        }
        for (int[] way : order) due("votes(" + way[0] + ", " + way[1] + ")", x.votes(way[0], way[1]), 4);
        dueWays("nine", x, order, 0);
        x.dot(dots[0][0], dots[0][1], 0);
        due("the ninth comes for one that goes", x.votes(6, 0), 0);
        dueWays("eight", x, order, 1);
        x.dot(5, 1, 95);
        x.dot(12, 1, 95);
        due("votes(7, 0), farther away", x.votes(7, 0), 4);
        dueWays("eight, and one farther away", x, order, 1);
        x.dot(2, 6, 97);
        x.dot(2, 11, 97);
        due("dy of a nearer one, though its dy is great", x.shift(0, 1), 5);
        due("dx of a nearer one", x.shift(0, 0), 100);
        due("behind it", x.shift(1, 0), 96);
    }

    private static void dueWays(String which, CopiedPatches x, int[][] order, int from) {
        due(which + ", how many", x.many(5), 8);
        for (int k = 0; k < 8; k++) {
            due(which + ", dx of " + k, x.shift(k, 0), 100 + order[from + k][0]);
            due(which + ", dy of " + k, x.shift(k, 1), order[from + k][1]);
        }
    }

    private static void linkedOrNot() {
        by(13, "its PAIRS are linked, if their first SQUARES' places are side by side,"
                + " or one right below the other");
        CopiedPatches beside = textured(12, 4);
        beside.paste(0, 0, 3, 2, 6, 0);
        dueRegions("side by side", beside, 2, 1);
        CopiedPatches below = textured(12, 4);
        below.paste(0, 0, 2, 3, 6, 0);
        dueRegions("one right below the other", below, 2, 1);
        CopiedPatches corner = textured(12, 4);
        corner.paste(0, 0, 2, 2, 6, 0);
        corner.paste(1, 1, 2, 2, 7, 1);
        dueRegions("corner to corner, to the right", corner, 2, 2);
        CopiedPatches other = textured(12, 4);
        other.paste(1, 0, 2, 2, 7, 0);
        other.paste(0, 1, 2, 2, 6, 1);
        dueRegions("corner to corner, to the left", other, 2, 2);
        CopiedPatches apart = drawn(new int[] {10, 50, 50, 90, 3, 10, 50, 50, 90},
                new int[] {20, 50, 50, 80, 30, 20, 50, 50, 80});
        apart.tune(SIDE, 2);
        dueRegions("a flat one between them", apart, 2, 2);
        by(13, "a REGION is all that are linked, be it by others");
        CopiedPatches bow = textured(12, 4);
        bow.paste(0, 0, 2, 4, 6, 0);
        bow.paste(3, 0, 2, 4, 9, 0);
        dueRegions("two towers", bow, 6, 2);
        bow.paste(2, 2, 1, 2, 8, 2);
        dueRegions("two towers and what links them below", bow, 8, 1);
        dueRegions("as many as there can be", tiled(), 180, 1);
    }

    private static void dueRegions(String which, CopiedPatches x, int votes, int regions) {
        due(which + ", votes", x.shift(0, 2), votes);
        due(which + ", regions", x.shift(0, 3), regions);
    }

    private static void regionsWithoutAFinding() {
        by(13, "3 how many REGIONS it has (with a FINDING or not).");
        CopiedPatches x = patched();
        int[] regions = {12, 8, 4};
        for (int k = 0; k < 3; k++) due("24 regions, of shift " + k, x.shift(k, 3), regions[k]);
        x.paste(0, 12, 2, 2, 3, 12);
        regions[0]++;
        for (int k = 0; k < 3; k++) due("25 regions, of shift " + k, x.shift(k, 3), regions[k]);
        due("findings", x.many(6), 24);
    }

    public static void main(String[] args) {
        noPair();
        asManyPairs();
        asManyPairsAsThereCanBe();
        flatOnesAndCrowdedOnes();
        firstOfAPair();
        asFarAsReach();
        votesOfTheFarthest();
        votesOfNoneAndOfMost();
        leastVotes();
        noShift();
        firstEight();
        moreVotesAhead();
        evenVotes();
        linkedOrNot();
        regionsWithoutAFinding();
        endOfQuote();
        Due.end();
    }
}
