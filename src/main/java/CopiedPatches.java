/**
 * Patches of a picture that were copied within it. The words in capitals are those of the document
 * (../shared/DOC.md). Every row is made with the object and used again: no call makes a new one.
 */
public final class CopiedPatches {

    public static final int UNKNOWN = -1, OUTSIDE = -2, NONE = -9;

    private static final int EDGE = 16;
    private static final int PLACES = EDGE * EDGE;
    private static final int GREATEST_GREY = 99;

    private static final int SIDE = 0, STEP = 1, MANNER = 2, FLATNESS = 3;
    private static final int REACH = 4, CROWD = 5, LEAST = 6, SLACK = 7;
    private static final int SETTINGS = 8;
    private static final int RAISED = 1;
    private static final int[] LOWEST_SETTING = {2, 1, 0, 0, 1, 2, 1, 0};
    private static final int[] HIGHEST_SETTING = {4, 20, 1, 99, 15, 20, 99, 30};
    private static final int[] FIRST_SETTING = {3, 1, 0, 0, 3, 8, 1, 0};

    private static final int NUMBER_BITS = 7;
    private static final int NUMBER_MASK = 127;
    private static final int NUMBERS_IN_HEAD = 9;
    private static final int FIRST_NUMBER = 10, LAST_NUMBER = 25;

    private static final int USUAL = 0, FLAT = 1, CROWDED = 2;

    /** 15 by 15 SQUARES, each with at most 19 others, for CROWD is 20 at most. */
    private static final int MOST_PAIRS = 15 * 15 * 19 / 2;
    private static final int FARTHEST = EDGE - 1;
    private static final int WAYS_ACROSS = 2 * FARTHEST + 1;
    private static final int WAYS = WAYS_ACROSS * EDGE;
    private static final int MOST_SHIFTS = 8;
    private static final int MOST_FINDINGS = 24;

    private static final int WITH_NOTHING = 0, WITH_SQUARES = 1, WITH_SHIFTS = 2, WITH_FINDINGS = 3;
    private static final int LAST_COUNT_OF_SQUARES = 3, LAST_COUNT_OF_SHIFTS = 5, LAST_COUNT = 7;
    private static final int IN_FINDING = 0, IN_COPY = 1, IN_EITHER = 2;

    private final Picture sheet = new Picture();
    private final Survey now = new Survey(sheet);
    /** The survey for other SETTINGS has rows of its own, so that those of the present ones stay. */
    private final Survey other = new Survey(sheet);

    public CopiedPatches() {
    }

    // ---- 1 the picture, squares

    public int picture(int w, int h) {
        if (!isWithin(w, 1, EDGE) || !isWithin(h, 1, EDGE)) {
            return OUTSIDE;
        }
        now.forget();
        return sheet.renew(w, h);
    }

    public int dot(int x, int y, int v) {
        if (!sheet.has(x, y)) {
            return UNKNOWN;
        }
        if (!isWithin(v, 0, GREATEST_GREY)) {
            return OUTSIDE;
        }
        int before = sheet.greyOf(x, y);
        sheet.change(x, y, v);
        now.forget();
        return before;
    }

    public int at(int x, int y) {
        return sheet.has(x, y) ? sheet.greyOf(x, y) : UNKNOWN;
    }

    public int raise(int x, int y, int w, int h, int v) {
        if (!sheet.has(x, y)) {
            return UNKNOWN;
        }
        if (!sheet.hasFrom(x, y, w, h) || !isWithin(v, -GREATEST_GREY, GREATEST_GREY)) {
            return OUTSIDE;
        }
        now.forget();
        int changed = 0;
        for (int j = y; j < y + h; j++) {
            for (int i = x; i < x + w; i++) {
                int grey = sheet.greyOf(i, j) + v;
                changed += sheet.change(i, j, Math.max(0, Math.min(GREATEST_GREY, grey)));
            }
        }
        return changed;
    }

    public int paste(int x, int y, int w, int h, int toX, int toY) {
        if (!sheet.has(x, y) || !sheet.has(toX, toY)) {
            return UNKNOWN;
        }
        if (!sheet.hasFrom(x, y, w, h) || !sheet.hasFrom(toX, toY, w, h)) {
            return OUTSIDE;
        }
        now.forget();
        sheet.remember();
        int changed = 0;
        for (int j = 0; j < h; j++) {
            for (int i = 0; i < w; i++) {
                changed += sheet.change(toX + i, toY + j, sheet.rememberedOf(x + i, y + j));
            }
        }
        return changed;
    }

    public int tune(int which, int v) {
        if (!isSetting(which, v)) {
            return OUTSIDE;
        }
        int before = now.settings[which];
        now.settings[which] = v;
        now.forget();
        return before;
    }

    public int mark(int x, int y) {
        now.reach(WITH_SQUARES);
        return now.squares.has(x, y) ? now.squares.markOf(EDGE * y + x) : 0;
    }

    public int square(int x, int y, int what) {
        now.reach(WITH_SQUARES);
        if (!now.squares.has(x, y)) {
            return UNKNOWN;
        }
        int place = EDGE * y + x;
        if (isWithin(what, FIRST_NUMBER, LAST_NUMBER)) {
            return now.squares.numberOf(place, what - FIRST_NUMBER);
        }
        switch (what) {
            case 0: return now.squares.least[place];
            case 1: return now.squares.greatest[place];
            case 2: return now.squares.role[place] == FLAT ? 1 : 0;
            case 3: return now.squares.role[place] == CROWDED ? 1 : 0;
            case 4: return now.squares.kindTo[place] - now.squares.kindFrom[place];
            case 5:
                now.reach(WITH_SHIFTS);
                return now.shifts.pairsWith[place];
            default: return OUTSIDE;
        }
    }

    public int inOrder(int k) {
        now.reach(WITH_SQUARES);
        return isWithin(k, 0, now.squares.count - 1) ? now.squares.order[k] : UNKNOWN;
    }

    // ---- 2 pairs, shifts

    public int pair(int k, int what) {
        now.reach(WITH_SHIFTS);
        if (!isWithin(k, 0, now.shifts.pairs - 1)) {
            return UNKNOWN;
        }
        switch (what) {
            case 0: return now.shifts.first[k];
            case 1: return now.shifts.second[k];
            default: return OUTSIDE;
        }
    }

    public int votes(int dx, int dy) {
        if (!isWithin(dx, -FARTHEST, FARTHEST) || !isWithin(dy, 0, FARTHEST)) {
            return OUTSIDE;
        }
        now.reach(WITH_SHIFTS);
        return now.shifts.voted[wayOf(dx, dy)];
    }

    public int shift(int k, int what) {
        now.reach(WITH_SHIFTS);
        if (!isWithin(k, 0, now.shifts.count - 1)) {
            return UNKNOWN;
        }
        int way = now.shifts.ways[k];
        switch (what) {
            case 0: return acrossOf(way) + 100;
            case 1: return downOf(way);
            case 2: return now.shifts.voted[way];
            case 3:
                now.reach(WITH_FINDINGS);
                return now.findings.regions[k];
            default: return OUTSIDE;
        }
    }

    // ---- 3 findings

    public int finding(int k, int what) {
        now.reach(WITH_FINDINGS);
        if (!isWithin(k, 0, now.findings.count - 1)) {
            return UNKNOWN;
        }
        Finding found = now.findings.list[k];
        switch (what) {
            case 0: return found.shift;
            case 1: return found.pairs;
            case 2: return found.placesFirst;
            case 3: return found.places;
            case 4: return Rows.leastColumn(found.rows);
            case 5: return Rows.greatestColumn(found.rows);
            case 6: return Rows.leastRow(found.rows);
            case 7: return Rows.greatestRow(found.rows);
            case 8: return found.offset + 100;
            case 9: return found.missesTogether(sheet);
            default: return OUTSIDE;
        }
    }

    public int holds(int k, int x, int y) {
        now.reach(WITH_FINDINGS);
        if (!isWithin(k, 0, now.findings.count - 1) || !sheet.has(x, y)) {
            return UNKNOWN;
        }
        Finding found = now.findings.list[k];
        return (found.rowOf(y) >> x & 1) + 2 * (found.copyRowOf(y) >> x & 1);
    }

    public int seen(int y, int how) {
        if (!sheet.has(0, y)) {
            return UNKNOWN;
        }
        if (!isWithin(how, IN_FINDING, IN_EITHER)) {
            return OUTSIDE;
        }
        now.reach(WITH_FINDINGS);
        return now.findings.columnsOf(y, how);
    }

    public int would(int which, int v, int what) {
        if (!isSetting(which, v) || !isWithin(what, 0, LAST_COUNT)) {
            return OUTSIDE;
        }
        System.arraycopy(now.settings, 0, other.settings, 0, SETTINGS);
        other.settings[which] = v;
        other.forget();
        other.reach(stageOfCount(what));
        return other.howMany(what);
    }

    public int many(int what) {
        if (!isWithin(what, 0, LAST_COUNT)) {
            return OUTSIDE;
        }
        now.reach(stageOfCount(what));
        return now.howMany(what);
    }

    private static int stageOfCount(int what) {
        if (what <= LAST_COUNT_OF_SQUARES) {
            return WITH_SQUARES;
        }
        return what <= LAST_COUNT_OF_SHIFTS ? WITH_SHIFTS : WITH_FINDINGS;
    }

    private static boolean isWithin(int v, int from, int to) {
        return v >= from && v <= to;
    }

    private static boolean isSetting(int which, int v) {
        return isWithin(which, 0, SETTINGS - 1)
                && isWithin(v, LOWEST_SETTING[which], HIGHEST_SETTING[which]);
    }

    /** Ways are numbered by dy, then by dx, so that the lesser of two has the lesser dy, then dx. */
    private static int wayOf(int dx, int dy) {
        return WAYS_ACROSS * dy + dx + FARTHEST;
    }

    private static int acrossOf(int way) {
        return way % WAYS_ACROSS - FARTHEST;
    }

    private static int downOf(int way) {
        return way / WAYS_ACROSS;
    }

    /** The PICTURE. */
    private static final class Picture {
        final int[] greys = new int[PLACES];
        private final int[] remembered = new int[PLACES];
        int columns = EDGE;
        int rows = EDGE;

        int renew(int w, int h) {
            columns = w;
            rows = h;
            for (int place = 0; place < PLACES; place++) {
                greys[place] = 0;
            }
            return w * h;
        }

        boolean has(int x, int y) {
            return x >= 0 && x < columns && y >= 0 && y < rows;
        }

        /** Written without x + w, which could wrap. */
        boolean hasFrom(int x, int y, int w, int h) {
            return w >= 1 && w <= columns - x && h >= 1 && h <= rows - y;
        }

        int greyOf(int x, int y) {
            return has(x, y) ? greys[EDGE * y + x] : 0;
        }

        /** Answers 1, if the GREY became another one. */
        int change(int x, int y, int grey) {
            if (!has(x, y) || greys[EDGE * y + x] == grey) {
                return 0;
            }
            greys[EDGE * y + x] = grey;
            return 1;
        }

        /** What is pasted may lie over what it is taken from. */
        void remember() {
            System.arraycopy(greys, 0, remembered, 0, PLACES);
        }

        int rememberedOf(int x, int y) {
            return has(x, y) ? remembered[EDGE * y + x] : 0;
        }
    }

    /** The SQUARES in ORDER; rows other than the order are told by the SQUARE's place. */
    private static final class Squares {
        final int[] order = new int[PLACES];
        private final int[] merged = new int[PLACES];
        final int[] least = new int[PLACES];
        final int[] greatest = new int[PLACES];
        final int[] role = new int[PLACES];
        /** The NUMBERS, 7 bits each, the first nine in the head: two longs compare as they do. */
        private final long[] head = new long[PLACES];
        private final long[] tail = new long[PLACES];
        /** Where in the order a SQUARE is, and from where to where those ALIKE with it are. */
        final int[] rank = new int[PLACES];
        final int[] kindFrom = new int[PLACES];
        final int[] kindTo = new int[PLACES];
        int side;
        int across;
        int down;
        int count;
        int flats;
        int crowded;
        int kinds;

        boolean has(int x, int y) {
            return x >= 0 && x < across && y >= 0 && y < down;
        }

        void read(Picture picture, int[] settings) {
            side = settings[SIDE];
            across = Math.max(0, picture.columns - side + 1);
            down = Math.max(0, picture.rows - side + 1);
            count = 0;
            flats = 0;
            for (int y = 0; y < down; y++) {
                for (int x = 0; x < across; x++) {
                    measure(picture, x, y, settings[FLATNESS]);
                    readNumbers(picture, x, y, settings);
                    order[count] = EDGE * y + x;
                    count++;
                }
            }
            sort();
            splitKinds(settings[CROWD]);
        }

        private void measure(Picture picture, int x, int y, int flatness) {
            int low = GREATEST_GREY;
            int high = 0;
            for (int j = y; j < y + side; j++) {
                for (int i = x; i < x + side; i++) {
                    int grey = picture.greyOf(i, j);
                    low = Math.min(low, grey);
                    high = Math.max(high, grey);
                }
            }
            int place = EDGE * y + x;
            least[place] = low;
            greatest[place] = high;
            role[place] = high - low <= flatness ? FLAT : USUAL;
            flats += role[place] == FLAT ? 1 : 0;
        }

        private void readNumbers(Picture picture, int x, int y, int[] settings) {
            int place = EDGE * y + x;
            int base = settings[MANNER] == RAISED ? least[place] : 0;
            int step = Math.max(1, settings[STEP]);
            long front = 0;
            long back = 0;
            int told = 0;
            for (int j = y; j < y + side; j++) {
                for (int i = x; i < x + side; i++) {
                    int number = (picture.greyOf(i, j) - base) / step;
                    if (told < NUMBERS_IN_HEAD) {
                        front = front << NUMBER_BITS | number;
                    } else {
                        back = back << NUMBER_BITS | number;
                    }
                    told++;
                }
            }
            head[place] = front;
            tail[place] = back;
        }

        int numberOf(int place, int i) {
            int numbers = side * side;
            if (i < 0 || i >= numbers) {
                return NONE;
            }
            if (i < NUMBERS_IN_HEAD) {
                int behind = Math.min(numbers, NUMBERS_IN_HEAD) - 1 - i;
                return (int) (head[place] >> NUMBER_BITS * behind) & NUMBER_MASK;
            }
            return (int) (tail[place] >> NUMBER_BITS * (numbers - 1 - i)) & NUMBER_MASK;
        }

        int markOf(int place) {
            int mark = 1;
            for (int i = 0; i < side * side; i++) {
                mark = 31 * mark + numberOf(place, i);
            }
            return mark;
        }

        /** Merging keeps ALIKE ones as they stood, which is by their places. */
        private void sort() {
            for (int width = 1; width < count; width *= 2) {
                for (int from = 0; from < count; from += 2 * width) {
                    merge(from, Math.min(from + width, count), Math.min(from + 2 * width, count));
                }
                System.arraycopy(merged, 0, order, 0, count);
            }
        }

        private void merge(int from, int middle, int to) {
            int left = from;
            int right = middle;
            for (int k = from; k < to; k++) {
                boolean takesRight = left >= middle
                        || right < to && isBefore(order[right], order[left]);
                if (takesRight) {
                    merged[k] = order[right];
                    right++;
                } else {
                    merged[k] = order[left];
                    left++;
                }
            }
        }

        private boolean isBefore(int one, int another) {
            if (head[one] != head[another]) {
                return head[one] < head[another];
            }
            return tail[one] < tail[another];
        }

        private boolean areAlike(int one, int another) {
            return head[one] == head[another] && tail[one] == tail[another];
        }

        private void splitKinds(int crowd) {
            kinds = 0;
            crowded = 0;
            int from = 0;
            for (int to = 1; to <= count; to++) {
                if (to == count || !areAlike(order[from], order[to])) {
                    noteKind(from, to, crowd);
                    kinds++;
                    from = to;
                }
            }
        }

        private void noteKind(int from, int to, int crowd) {
            int notFlat = 0;
            for (int k = from; k < to; k++) {
                int place = order[k];
                rank[place] = k;
                kindFrom[place] = from;
                kindTo[place] = to;
                notFlat += role[place] == FLAT ? 0 : 1;
            }
            if (notFlat <= crowd) {
                return;
            }
            for (int k = from; k < to; k++) {
                if (role[order[k]] != FLAT) {
                    role[order[k]] = CROWDED;
                }
            }
            crowded += notFlat;
        }
    }

    /** The PAIRS, VOTES of every way, and the ways that are SHIFTS. */
    private static final class Shifts {
        final int[] first = new int[MOST_PAIRS];
        final int[] second = new int[MOST_PAIRS];
        int pairs;
        final int[] pairsWith = new int[PLACES];
        final int[] voted = new int[WAYS];
        /** One more than the SHIFTS, for the one that falls out. */
        final int[] ways = new int[MOST_SHIFTS + 1];
        int count;
        private final int[] numberOfWay = new int[WAYS];

        void gather(Squares squares, int[] settings) {
            pairs = 0;
            for (int place = 0; place < PLACES; place++) {
                pairsWith[place] = 0;
            }
            for (int way = 0; way < WAYS; way++) {
                voted[way] = 0;
                numberOfWay[way] = NONE;
            }
            for (int y = 0; y < squares.down; y++) {
                for (int x = 0; x < squares.across; x++) {
                    pairUp(squares, EDGE * y + x, settings[REACH]);
                }
            }
            choose(settings[LEAST]);
        }

        /** Those behind it in the order that are ALIKE have the greater places. */
        private void pairUp(Squares squares, int one, int reach) {
            if (squares.role[one] != USUAL) {
                return;
            }
            for (int k = squares.rank[one] + 1; k < squares.kindTo[one]; k++) {
                int another = squares.order[k];
                if (squares.role[another] == USUAL) {
                    addPair(one, another, reach);
                }
            }
        }

        private void addPair(int one, int another, int reach) {
            int dx = another % EDGE - one % EDGE;
            int dy = another / EDGE - one / EDGE;
            boolean isNear = Math.abs(dx) < reach && dy < reach;
            if (isNear || pairs >= MOST_PAIRS) {
                return;
            }
            first[pairs] = one;
            second[pairs] = another;
            pairs++;
            pairsWith[one]++;
            pairsWith[another]++;
            voted[wayOf(dx, dy)]++;
        }

        private void choose(int leastVotes) {
            count = 0;
            for (int way = 0; way < WAYS; way++) {
                if (voted[way] >= leastVotes) {
                    ways[count] = way;
                    settle(count);
                    count = Math.min(count + 1, MOST_SHIFTS);
                }
            }
            for (int k = 0; k < count; k++) {
                numberOfWay[ways[k]] = k;
            }
        }

        private void settle(int from) {
            for (int k = from; k > 0 && isAhead(ways[k], ways[k - 1]); k--) {
                int way = ways[k];
                ways[k] = ways[k - 1];
                ways[k - 1] = way;
            }
        }

        private boolean isAhead(int one, int another) {
            if (voted[one] != voted[another]) {
                return voted[one] > voted[another];
            }
            int length = Math.abs(acrossOf(one)) + downOf(one);
            int lengthOfAnother = Math.abs(acrossOf(another)) + downOf(another);
            return length != lengthOfAnother ? length < lengthOfAnother : one < another;
        }

        /** The number of the SHIFT of a PAIR; NONE, if its way is not among the SHIFTS. */
        int shiftOfPair(int k) {
            int dx = second[k] % EDGE - first[k] % EDGE;
            int dy = second[k] / EDGE - first[k] / EDGE;
            return numberOfWay[wayOf(dx, dy)];
        }
    }

    /** Sets of places: a row of bits for each row of the PICTURE. */
    private static final class Rows {

        static void clear(int[] rows) {
            for (int y = 0; y < EDGE; y++) {
                rows[y] = 0;
            }
        }

        static int size(int[] rows) {
            int places = 0;
            for (int y = 0; y < EDGE; y++) {
                places += Integer.bitCount(rows[y]);
            }
            return places;
        }

        /** Every round but the last takes in a place, so there are no more rounds than places. */
        static void spread(int[] rows, int[] open) {
            boolean grew = true;
            for (int round = 0; round < PLACES && grew; round++) {
                grew = spreadOnce(rows, open);
            }
        }

        private static boolean spreadOnce(int[] rows, int[] open) {
            boolean grew = false;
            for (int y = 0; y < EDGE; y++) {
                int beside = rows[y] << 1 | rows[y] >> 1;
                int above = y > 0 ? rows[y - 1] : 0;
                int below = y < EDGE - 1 ? rows[y + 1] : 0;
                int more = (beside | above | below) & open[y] & ~rows[y];
                rows[y] |= more;
                grew = grew || more != 0;
            }
            return grew;
        }

        /** Each place becomes the upper left corner of a square; from below, for rows above are read. */
        static void widen(int[] rows, int side) {
            for (int y = 0; y < EDGE; y++) {
                int corners = rows[y];
                for (int i = 1; i < side; i++) {
                    rows[y] |= corners << i;
                }
            }
            for (int y = EDGE - 1; y >= 0; y--) {
                for (int j = 1; j < side && j <= y; j++) {
                    rows[y] |= rows[y - j];
                }
            }
        }

        private static int columns(int[] rows) {
            int columns = 0;
            for (int y = 0; y < EDGE; y++) {
                columns |= rows[y];
            }
            return columns;
        }

        static int leastColumn(int[] rows) {
            int columns = columns(rows);
            for (int x = 0; x < EDGE; x++) {
                if ((columns >> x & 1) != 0) {
                    return x;
                }
            }
            return NONE;
        }

        static int greatestColumn(int[] rows) {
            int columns = columns(rows);
            for (int x = EDGE - 1; x >= 0; x--) {
                if ((columns >> x & 1) != 0) {
                    return x;
                }
            }
            return NONE;
        }

        static int leastRow(int[] rows) {
            for (int y = 0; y < EDGE; y++) {
                if (rows[y] != 0) {
                    return y;
                }
            }
            return NONE;
        }

        static int greatestRow(int[] rows) {
            for (int y = EDGE - 1; y >= 0; y--) {
                if (rows[y] != 0) {
                    return y;
                }
            }
            return NONE;
        }
    }

    /** A REGION, whose rows are the first places of its PAIRS; once grown, the FINDING of it. */
    private static final class Finding {
        final int[] rows = new int[EDGE];
        int shift;
        int dx;
        int dy;
        int leastPlace;
        int pairs;
        int offset;
        int placesFirst;
        int places;

        /** Takes its PAIRS out of those that are left. */
        void begin(int numberOfShift, int way, int place, int[] left) {
            shift = numberOfShift;
            dx = acrossOf(way);
            dy = downOf(way);
            leastPlace = place;
            Rows.clear(rows);
            rows[place / EDGE] = 1 << place % EDGE;
            Rows.spread(rows, left);
            pairs = Rows.size(rows);
            for (int y = 0; y < EDGE; y++) {
                left[y] &= ~rows[y];
            }
        }

        void lift(Squares squares, int manner) {
            int place = leastPlace + EDGE * dy + dx;
            boolean isLifted = manner == RAISED && isWithin(place, 0, PLACES - 1);
            offset = isLifted ? squares.least[place] - squares.least[leastPlace] : 0;
        }

        void grow(Picture picture, int side, int slack, int[] open) {
            Rows.widen(rows, side);
            placesFirst = Rows.size(rows);
            for (int y = 0; y < EDGE; y++) {
                open[y] = 0;
                for (int x = 0; x < EDGE; x++) {
                    open[y] |= isWithin(missOf(picture, x, y), 0, slack) ? 1 << x : 0;
                }
            }
            Rows.spread(rows, open);
            places = Rows.size(rows);
        }

        /** NONE for places that the SHIFT leads out of the PICTURE. */
        private int missOf(Picture picture, int x, int y) {
            if (!picture.has(x, y) || !picture.has(x + dx, y + dy)) {
                return NONE;
            }
            int here = picture.greys[EDGE * y + x];
            int there = picture.greys[EDGE * (y + dy) + x + dx];
            return Math.abs(there - here - offset);
        }

        int missesTogether(Picture picture) {
            int together = 0;
            for (int y = 0; y < EDGE; y++) {
                for (int x = 0; x < EDGE; x++) {
                    together += (rows[y] >> x & 1) != 0 ? Math.max(0, missOf(picture, x, y)) : 0;
                }
            }
            return together;
        }

        int rowOf(int y) {
            return isWithin(y, 0, EDGE - 1) ? rows[y] : 0;
        }

        int copyRowOf(int y) {
            int row = rowOf(y - dy);
            return dx < 0 ? row >> -dx : row << dx;
        }

        /** REGIONS go by their PAIRS, FINDINGS by their places; both then by SHIFT and least place. */
        boolean isAhead(Finding another, boolean areGrown) {
            int size = areGrown ? places : pairs;
            int sizeOfAnother = areGrown ? another.places : another.pairs;
            if (size != sizeOfAnother) {
                return size > sizeOfAnother;
            }
            return shift != another.shift ? shift < another.shift : leastPlace < another.leastPlace;
        }
    }

    /** The first REGIONS of all SHIFTS, grown to FINDINGS. */
    private static final class Findings {
        /** One more than the FINDINGS, for the REGION that falls out. */
        final Finding[] list = new Finding[MOST_FINDINGS + 1];
        int count;
        final int[] regions = new int[MOST_SHIFTS];
        private final int[][] left = new int[MOST_SHIFTS][EDGE];
        private final int[] open = new int[EDGE];

        Findings() {
            for (int k = 0; k <= MOST_FINDINGS; k++) {
                list[k] = new Finding();
            }
        }

        void gather(Shifts shifts) {
            count = 0;
            for (int s = 0; s < MOST_SHIFTS; s++) {
                regions[s] = 0;
                Rows.clear(left[s]);
            }
            for (int k = 0; k < shifts.pairs; k++) {
                int s = shifts.shiftOfPair(k);
                if (isWithin(s, 0, MOST_SHIFTS - 1)) {
                    left[s][shifts.first[k] / EDGE] |= 1 << shifts.first[k] % EDGE;
                }
            }
            for (int s = 0; s < shifts.count; s++) {
                for (int place = 0; place < PLACES; place++) {
                    if ((left[s][place / EDGE] >> place % EDGE & 1) != 0) {
                        addRegion(s, shifts.ways[s], place);
                    }
                }
            }
        }

        private void addRegion(int s, int way, int place) {
            list[count].begin(s, way, place, left[s]);
            settle(count, false);
            regions[s]++;
            count = Math.min(count + 1, MOST_FINDINGS);
        }

        void grow(Picture picture, Squares squares, int[] settings) {
            for (int k = 0; k < count; k++) {
                list[k].lift(squares, settings[MANNER]);
                list[k].grow(picture, settings[SIDE], settings[SLACK], open);
                settle(k, true);
            }
        }

        private void settle(int from, boolean areGrown) {
            for (int k = from; k > 0 && list[k].isAhead(list[k - 1], areGrown); k--) {
                Finding found = list[k];
                list[k] = list[k - 1];
                list[k - 1] = found;
            }
        }

        int columnsOf(int y, int how) {
            int columns = 0;
            for (int k = 0; k < count; k++) {
                columns |= how == IN_COPY ? 0 : list[k].rowOf(y);
                columns |= how == IN_FINDING ? 0 : list[k].copyRowOf(y);
            }
            return columns;
        }

        int placesSeen() {
            int places = 0;
            for (int y = 0; y < EDGE; y++) {
                places += Integer.bitCount(columnsOf(y, IN_EITHER));
            }
            return places;
        }
    }

    /** What the PICTURE has by some SETTINGS, found as far as it is asked for, and kept. */
    private static final class Survey {
        private final Picture picture;
        final int[] settings = new int[SETTINGS];
        final Squares squares = new Squares();
        final Shifts shifts = new Shifts();
        final Findings findings = new Findings();
        private int reached;

        Survey(Picture picture) {
            this.picture = picture;
            for (int which = 0; which < SETTINGS; which++) {
                settings[which] = FIRST_SETTING[which];
            }
        }

        void forget() {
            reached = WITH_NOTHING;
        }

        void reach(int stage) {
            if (reached < WITH_SQUARES && stage >= WITH_SQUARES) {
                squares.read(picture, settings);
                reached = WITH_SQUARES;
            }
            if (reached < WITH_SHIFTS && stage >= WITH_SHIFTS) {
                shifts.gather(squares, settings);
                reached = WITH_SHIFTS;
            }
            if (reached < WITH_FINDINGS && stage >= WITH_FINDINGS) {
                findings.gather(shifts);
                findings.grow(picture, squares, settings);
                reached = WITH_FINDINGS;
            }
        }

        /** Of what has been reached. */
        int howMany(int what) {
            switch (what) {
                case 0: return squares.count;
                case 1: return squares.flats;
                case 2: return squares.crowded;
                case 3: return squares.kinds;
                case 4: return shifts.pairs;
                case 5: return shifts.count;
                case 6: return findings.count;
                default: return findings.placesSeen();
            }
        }
    }
}
