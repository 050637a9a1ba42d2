import java.util.ArrayList;
import java.util.Arrays;
import java.util.Comparator;
import java.util.HashMap;
import java.util.HashSet;
import java.util.List;
import java.util.Map;
import java.util.Set;
import java.util.TreeMap;
import java.util.TreeSet;

/**
 * The document written down once more, as plainly as the Java library allows and sharing nothing
 * with the class. PAIRS and FINDINGS are kept until the next change, for they are slow to find.
 */
final class PlainPatches {
    static final int UNKNOWN = -1, OUTSIDE = -2, NONE = -9;
    private static final int[][] RANGES =
            {{2, 4}, {1, 20}, {0, 1}, {0, 99}, {1, 15}, {2, 20}, {1, 99}, {0, 30}};

    private int width = 16;
    private int height = 16;
    private Map<Integer, Integer> greys = new HashMap<>();
    private int[] settings = {3, 1, 0, 0, 3, 8, 1, 0};
    private List<Pair> keptPairs;
    private List<Found> keptFindings;

    private record Way(int dx, int dy) {
    }

    private record Pair(int first, int second) {
        Way way() {
            return new Way(second % 16 - first % 16, second / 16 - first / 16);
        }
    }

    private record Region(int shift, Way way, TreeSet<Integer> firsts) {
    }

    private record Found(Region region, int offset, Set<Integer> begun, TreeSet<Integer> places) {
        boolean copies(int place) {
            return places.contains(place - 16 * region.way.dy - region.way.dx)
                    && place % 16 - region.way.dx >= 0 && place % 16 - region.way.dx < 16;
        }
    }

    private boolean has(int x, int y) {
        return 0 <= x && x < width && 0 <= y && y < height;
    }

    private int grey(int place) {
        return greys.getOrDefault(place, 0);
    }

    private void forget() {
        keptPairs = null;
        keptFindings = null;
    }

    int picture(int w, int h) {
        if (w < 1 || w > 16 || h < 1 || h > 16) return OUTSIDE;
        forget();
        width = w;
        height = h;
        greys = new HashMap<>();
        return w * h;
    }

    int dot(int x, int y, int v) {
        if (!has(x, y)) return UNKNOWN;
        if (v < 0 || v > 99) return OUTSIDE;
        int was = grey(16 * y + x);
        forget();
        greys.put(16 * y + x, v);
        return was;
    }

    int at(int x, int y) {
        return has(x, y) ? grey(16 * y + x) : UNKNOWN;
    }

    private boolean fits(int x, int y, int w, int h) {
        return w >= 1 && h >= 1 && (long) x + w <= width && (long) y + h <= height;
    }

    private int replace(Map<Integer, Integer> next) {
        int changed = 0;
        for (int place = 0; place < 256; place++) {
            if (grey(place) != next.getOrDefault(place, 0)) changed++;
        }
        greys = next;
        forget();
        return changed;
    }

    int raise(int x, int y, int w, int h, int v) {
        if (!has(x, y)) return UNKNOWN;
        if (!fits(x, y, w, h) || v < -99 || v > 99) return OUTSIDE;
        Map<Integer, Integer> next = new HashMap<>(greys);
        for (int j = 0; j < h; j++) {
            for (int i = 0; i < w; i++) {
                int place = 16 * (y + j) + x + i;
                next.put(place, Math.min(99, Math.max(0, grey(place) + v)));
            }
        }
        return replace(next);
    }

    int paste(int x, int y, int w, int h, int toX, int toY) {
        if (!has(x, y) || !has(toX, toY)) return UNKNOWN;
        if (!fits(x, y, w, h) || !fits(toX, toY, w, h)) return OUTSIDE;
        Map<Integer, Integer> next = new HashMap<>(greys);
        for (int j = 0; j < h; j++) {
            for (int i = 0; i < w; i++) {
                next.put(16 * (toY + j) + toX + i, grey(16 * (y + j) + x + i));
            }
        }
        return replace(next);
    }

    private static boolean canBe(int which, int v) {
        return which >= 0 && which <= 7 && RANGES[which][0] <= v && v <= RANGES[which][1];
    }

    int tune(int which, int v) {
        if (!canBe(which, v)) return OUTSIDE;
        int was = settings[which];
        settings[which] = v;
        forget();
        return was;
    }

    private boolean hasSquare(int x, int y) {
        return has(x, y) && has(x + settings[0] - 1, y + settings[0] - 1);
    }

    private List<Integer> squares() {
        List<Integer> all = new ArrayList<>();
        for (int y = 0; y < height; y++) {
            for (int x = 0; x < width; x++) {
                if (hasSquare(x, y)) all.add(16 * y + x);
            }
        }
        return all;
    }

    private List<Integer> placesOf(int square) {
        List<Integer> places = new ArrayList<>();
        for (int j = 0; j < settings[0]; j++) {
            for (int i = 0; i < settings[0]; i++) places.add(square + 16 * j + i);
        }
        return places;
    }

    private int least(int square) {
        return placesOf(square).stream().mapToInt(this::grey).min().getAsInt();
    }

    private int greatest(int square) {
        return placesOf(square).stream().mapToInt(this::grey).max().getAsInt();
    }

    private boolean flat(int square) {
        return greatest(square) <= least(square) + settings[3];
    }

    private List<Integer> numbers(int square) {
        List<Integer> numbers = new ArrayList<>();
        int low = least(square);
        for (int place : placesOf(square)) {
            int grey = settings[2] == 0 ? grey(place) : grey(place) - low;
            numbers.add(grey / settings[1]);
        }
        return numbers;
    }

    private Map<List<Integer>, List<Integer>> kinds() {
        Comparator<List<Integer>> byNumbers = (one, another) -> {
            for (int i = 0; i < one.size(); i++) {
                if (!one.get(i).equals(another.get(i))) return one.get(i) - another.get(i);
            }
            return 0;
        };
        Map<List<Integer>, List<Integer>> kinds = new TreeMap<>(byNumbers);
        for (int square : squares()) {
            kinds.computeIfAbsent(numbers(square), none -> new ArrayList<>()).add(square);
        }
        return kinds;
    }

    private Set<Integer> crowded() {
        Set<Integer> crowded = new HashSet<>();
        for (List<Integer> kind : kinds().values()) {
            List<Integer> rough = kind.stream().filter(s -> !flat(s)).toList();
            if (rough.size() > settings[5]) crowded.addAll(rough);
        }
        return crowded;
    }

    private List<Pair> pairs() {
        if (keptPairs == null) keptPairs = findPairs();
        return keptPairs;
    }

    private List<Pair> findPairs() {
        Set<Integer> crowded = crowded();
        List<Pair> pairs = new ArrayList<>();
        for (List<Integer> kind : kinds().values()) {
            List<Integer> fit =
                    kind.stream().filter(s -> !flat(s) && !crowded.contains(s)).toList();
            for (int one : fit) {
                for (int another : fit) {
                    Pair pair = new Pair(one, another);
                    boolean far = Math.abs(pair.way().dx) >= settings[4]
                            || Math.abs(pair.way().dy) >= settings[4];
                    if (one < another && far) pairs.add(pair);
                }
            }
        }
        pairs.sort(Comparator.comparingInt(Pair::first).thenComparingInt(Pair::second));
        return pairs;
    }

    private static int count(List<Pair> pairs, Way way) {
        return (int) pairs.stream().filter(pair -> pair.way().equals(way)).count();
    }

    private List<Way> shifts(List<Pair> pairs) {
        Map<Way, Integer> votes = new HashMap<>();
        pairs.forEach(pair -> votes.merge(pair.way(), 1, Integer::sum));
        List<Way> ways = new ArrayList<>(votes.keySet());
        ways.removeIf(way -> votes.get(way) < settings[6]);
        ways.sort(Comparator.comparingInt((Way way) -> -votes.get(way))
                .thenComparingInt(way -> Math.abs(way.dx) + way.dy)
                .thenComparingInt(Way::dy)
                .thenComparingInt(Way::dx));
        return ways.size() > 8 ? ways.subList(0, 8) : ways;
    }

    private List<Integer> around(int place) {
        int x = place % 16;
        int y = place / 16;
        List<Integer> around = new ArrayList<>();
        if (has(x - 1, y)) around.add(place - 1);
        if (has(x + 1, y)) around.add(place + 1);
        if (has(x, y - 1)) around.add(place - 16);
        if (has(x, y + 1)) around.add(place + 16);
        return around;
    }

    private List<Region> regions(List<Pair> pairs, int shift, Way way) {
        TreeSet<Integer> left = new TreeSet<>();
        pairs.stream().filter(pair -> pair.way().equals(way)).forEach(pair -> left.add(pair.first));
        List<Region> regions = new ArrayList<>();
        while (!left.isEmpty()) {
            TreeSet<Integer> firsts = new TreeSet<>();
            List<Integer> waiting = new ArrayList<>(List.of(left.pollFirst()));
            while (!waiting.isEmpty()) {
                int place = waiting.remove(waiting.size() - 1);
                firsts.add(place);
                for (int next : around(place)) {
                    if (left.remove(next)) waiting.add(next);
                }
            }
            regions.add(new Region(shift, way, firsts));
        }
        return regions;
    }

    private int miss(int place, Way way, int offset) {
        return Math.abs(grey(place + 16 * way.dy + way.dx) - grey(place) - offset);
    }

    private Found grow(Region region) {
        Way way = region.way;
        int first = region.firsts.first();
        int offset = settings[2] == 0 ? 0 : least(first + 16 * way.dy + way.dx) - least(first);
        Set<Integer> begun = new HashSet<>();
        region.firsts.forEach(square -> begun.addAll(placesOf(square)));
        TreeSet<Integer> places = new TreeSet<>(begun);
        List<Integer> waiting = new ArrayList<>(begun);
        while (!waiting.isEmpty()) {
            for (int next : around(waiting.remove(waiting.size() - 1))) {
                boolean comes = has(next % 16 + way.dx, next / 16 + way.dy)
                        && miss(next, way, offset) <= settings[7];
                if (comes && places.add(next)) waiting.add(next);
            }
        }
        return new Found(region, offset, begun, places);
    }

    private List<Found> findings() {
        if (keptFindings == null) keptFindings = findFindings();
        return keptFindings;
    }

    private List<Found> findFindings() {
        List<Pair> pairs = pairs();
        List<Way> shifts = shifts(pairs);
        List<Region> regions = new ArrayList<>();
        for (int s = 0; s < shifts.size(); s++) regions.addAll(regions(pairs, s, shifts.get(s)));
        regions.sort(Comparator.comparingInt((Region region) -> -region.firsts.size())
                .thenComparingInt(Region::shift)
                .thenComparingInt(region -> region.firsts.first()));
        List<Found> findings = new ArrayList<>();
        for (int k = 0; k < Math.min(24, regions.size()); k++) findings.add(grow(regions.get(k)));
        findings.sort(Comparator.comparingInt((Found found) -> -found.places.size())
                .thenComparingInt(found -> found.region.shift)
                .thenComparingInt(found -> found.region.firsts.first()));
        return findings;
    }

    int mark(int x, int y) {
        if (!hasSquare(x, y)) return 0;
        int mark = 1;
        for (int number : numbers(16 * y + x)) mark = 31 * mark + number;
        return mark;
    }

    int square(int x, int y, int what) {
        if (!hasSquare(x, y)) return UNKNOWN;
        int place = 16 * y + x;
        if (what >= 10 && what <= 25) {
            List<Integer> numbers = numbers(place);
            return what - 10 < numbers.size() ? numbers.get(what - 10) : NONE;
        }
        return switch (what) {
            case 0 -> least(place);
            case 1 -> greatest(place);
            case 2 -> flat(place) ? 1 : 0;
            case 3 -> crowded().contains(place) ? 1 : 0;
            case 4 -> kinds().get(numbers(place)).size();
            case 5 -> (int) pairs().stream()
                    .filter(pair -> pair.first == place || pair.second == place).count();
            default -> OUTSIDE;
        };
    }

    int inOrder(int k) {
        List<Integer> order = new ArrayList<>();
        kinds().values().forEach(order::addAll);
        return k >= 0 && k < order.size() ? order.get(k) : UNKNOWN;
    }

    int pair(int k, int what) {
        List<Pair> pairs = pairs();
        if (k < 0 || k >= pairs.size()) return UNKNOWN;
        return what == 0 ? pairs.get(k).first : what == 1 ? pairs.get(k).second : OUTSIDE;
    }

    int votes(int dx, int dy) {
        if (dx < -15 || dx > 15 || dy < 0 || dy > 15) return OUTSIDE;
        return count(pairs(), new Way(dx, dy));
    }

    int shift(int k, int what) {
        List<Pair> pairs = pairs();
        List<Way> shifts = shifts(pairs);
        if (k < 0 || k >= shifts.size()) return UNKNOWN;
        return switch (what) {
            case 0 -> shifts.get(k).dx + 100;
            case 1 -> shifts.get(k).dy;
            case 2 -> count(pairs, shifts.get(k));
            case 3 -> regions(pairs, k, shifts.get(k)).size();
            default -> OUTSIDE;
        };
    }

    int finding(int k, int what) {
        List<Found> findings = findings();
        if (k < 0 || k >= findings.size()) return UNKNOWN;
        Found found = findings.get(k);
        return switch (what) {
            case 0 -> found.region.shift;
            case 1 -> found.region.firsts.size();
            case 2 -> found.begun.size();
            case 3 -> found.places.size();
            case 4 -> found.places.stream().mapToInt(p -> p % 16).min().getAsInt();
            case 5 -> found.places.stream().mapToInt(p -> p % 16).max().getAsInt();
            case 6 -> found.places.first() / 16;
            case 7 -> found.places.last() / 16;
            case 8 -> found.offset + 100;
            case 9 -> found.places.stream()
                    .mapToInt(p -> miss(p, found.region.way, found.offset)).sum();
            default -> OUTSIDE;
        };
    }

    int holds(int k, int x, int y) {
        List<Found> findings = findings();
        if (k < 0 || k >= findings.size() || !has(x, y)) return UNKNOWN;
        Found found = findings.get(k);
        int place = 16 * y + x;
        return (found.places.contains(place) ? 1 : 0) + (found.copies(place) ? 2 : 0);
    }

    private int seenIn(List<Found> findings, int y, int how) {
        int columns = 0;
        for (int x = 0; x < 16; x++) {
            for (Found found : findings) {
                boolean is = how != 1 && found.places.contains(16 * y + x)
                        || how != 0 && found.copies(16 * y + x);
                if (is) columns |= 1 << x;
            }
        }
        return columns;
    }

    int seen(int y, int how) {
        if (!has(0, y)) return UNKNOWN;
        if (how < 0 || how > 2) return OUTSIDE;
        return seenIn(findings(), y, how);
    }

    int would(int which, int v, int what) {
        if (!canBe(which, v)) return OUTSIDE;
        int[] before = Arrays.copyOf(settings, 8);
        settings[which] = v;
        forget();
        int many = many(what);
        settings = before;
        forget();
        return many;
    }

    int many(int what) {
        switch (what) {
            case 0: return squares().size();
            case 1: return (int) squares().stream().filter(this::flat).count();
            case 2: return crowded().size();
            case 3: return kinds().size();
            case 4: return pairs().size();
            case 5: return shifts(pairs()).size();
            case 6: return findings().size();
            case 7:
                List<Found> findings = findings();
                int places = 0;
                for (int y = 0; y < 16; y++) places += Integer.bitCount(seenIn(findings, y, 2));
                return places;
            default: return OUTSIDE;
        }
    }
}
