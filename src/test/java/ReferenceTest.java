import java.math.BigInteger;
import java.util.ArrayList;
import java.util.Arrays;
import java.util.HashSet;
import java.util.List;
import java.util.Set;

/** Compares the class with a slow one, which on small lines tries every row of places, on many made-up lines. */
public final class ReferenceTest {
    private static final BigInteger BILLION = BigInteger.valueOf(1000000000);
    private static int wrong = 0;
    private static long seed = 20261115L;

    /** The same numbers in each run. */
    private static int number(int below) {
        seed = seed * 6364136223846793005L + 1442695040888963407L;
        return (int) ((seed >>> 33) % below);
    }

    private record Way(List<Integer> places, long cost) {
    }

    /** The document's terms, word by word. */
    private static final class Slow {
        final boolean[][] dark;
        final int width;
        final int height;

        Slow(int width, int height) {
            this.width = width;
            this.height = height;
            dark = new boolean[width][height];
        }

        boolean darkIn(int x) {
            for (boolean spot : dark[x]) {
                if (spot) {
                    return true;
                }
            }
            return false;
        }

        int from() {
            int x = 0;
            while (x < width && !darkIn(x)) {
                x++;
            }
            return x == width ? -1 : x;
        }

        int until() {
            int x = width;
            while (x > 0 && !darkIn(x - 1)) {
                x--;
            }
            return x;
        }

        List<Integer> strongRows() {
            int[] counts = new int[height];
            int most = 0;
            for (int y = 0; y < height; y++) {
                for (int x = 0; x < width; x++) {
                    counts[y] += dark[x][y] ? 1 : 0;
                }
                most = Math.max(most, counts[y]);
            }
            List<Integer> strong = new ArrayList<>();
            for (int y = 0; y < height; y++) {
                if (counts[y] >= most / 2.0) {
                    strong.add(y);
                }
            }
            return strong;
        }

        int touch(int place) {
            int rows = 0;
            for (int y = 0; y < height; y++) {
                rows += dark[place - 1][y] && dark[place][y] ? 1 : 0;
            }
            return rows;
        }

        List<Integer> placesToCut() {
            List<Integer> places = new ArrayList<>();
            for (int place = from() + 1; place < until(); place++) {
                if (touch(place) <= 2 && (darkIn(place - 1) || darkIn(place))) {
                    places.add(place);
                }
            }
            return places;
        }

        int base(int which) {
            if (from() < 0) {
                return -1;
            }
            List<Integer> strong = strongRows();
            int middle = strong.get(0);
            int base = strong.get(strong.size() - 1);
            int[] answers = {middle, base, (int) Math.floor(0.75 * (base - middle)) + 2, from(), until(),
                placesToCut().size()};
            return which < 0 || which >= answers.length ? -1 : answers[which];
        }

        int slant() {
            int best = 0;
            int fewest = Integer.MAX_VALUE;
            for (int b = -6; b <= 6; b++) {
                Set<Integer> reached = new HashSet<>();
                for (int x = 0; x < width; x++) {
                    for (int y = 0; y < height; y++) {
                        if (dark[x][y]) {
                            reached.add((int) Math.floor(x + b * (height - 1 - y) / 8.0));
                        }
                    }
                }
                boolean nearer = Math.abs(b) < Math.abs(best);
                if (reached.size() < fewest || reached.size() == fewest && nearer) {
                    fewest = reached.size();
                    best = b;
                }
            }
            return best;
        }

        /** -1 if there is no dark spot in the sign. */
        long signCost(int left, int right, int due) {
            int first = left;
            while (first < right && !darkIn(first)) {
                first++;
            }
            if (first == right) {
                return -1;
            }
            int last = right - 1;
            while (!darkIn(last)) {
                last--;
            }
            long cost = (long) (last - first + 1 - due) * (last - first + 1 - due);
            for (int x = first; x <= last; x++) {
                cost += darkIn(x) ? 0 : 5;
            }
            int torn = 0;
            for (int y = 0; y < height; y++) {
                torn += isTorn(y, left, right) ? 1 : 0;
            }
            return cost + (torn == 0 ? 0 : (torn - 1) * 2L);
        }

        boolean isTorn(int y, int left, int right) {
            StringBuilder row = new StringBuilder();
            for (int x = left; x < right; x++) {
                row.append(dark[x][y] ? '#' : ' ');
            }
            return row.toString().trim().indexOf(' ') >= 0;
        }

        List<Way> ways() {
            List<Way> ways = new ArrayList<>();
            if (from() < 0) {
                return ways;
            }
            List<Integer> cuttable = placesToCut();
            int due = base(2);
            for (int chosen = 0; chosen < 1 << cuttable.size(); chosen++) {
                List<Integer> places = new ArrayList<>();
                places.add(from());
                for (int i = 0; i < cuttable.size(); i++) {
                    if ((chosen >> i & 1) != 0) {
                        places.add(cuttable.get(i));
                    }
                }
                places.add(until());
                long cost = wayCost(places, due);
                if (cost >= 0) {
                    ways.add(new Way(places, cost));
                }
            }
            ways.sort(ReferenceTest::compare);
            return ways;
        }

        /** FROM, all that may be cut, UNTIL. */
        List<Integer> stops() {
            List<Integer> stops = new ArrayList<>(placesToCut());
            stops.add(0, from());
            stops.add(until());
            return stops;
        }

        /** The 40 first of ways(), by the 40 first beginnings of ways up to each stop. */
        List<Way> cheapestWays() {
            List<List<Way>> begun = new ArrayList<>();
            if (from() < 0) {
                return new ArrayList<>();
            }
            List<Integer> stops = stops();
            begun.add(List.of(new Way(List.of(from()), 0)));
            for (int to = 1; to < stops.size(); to++) {
                int place = stops.get(to);
                List<Way> here = new ArrayList<>();
                for (int start = 0; start < to; start++) {
                    long sign = signCost(stops.get(start), place, base(2));
                    for (Way way : begun.get(start)) {
                        if (sign >= 0) {
                            List<Integer> places = new ArrayList<>(way.places());
                            places.add(place);
                            here.add(new Way(places, way.cost() + sign + (place < until() ? 10L * touch(place) : 0)));
                        }
                    }
                }
                here.sort(ReferenceTest::compare);
                begun.add(here.subList(0, Math.min(40, here.size())));
            }
            return begun.get(stops.size() - 1);
        }

        /** How many ways have 0, 1, .. and one more sign than there are columns. */
        List<BigInteger> counts() {
            BigInteger[] none = new BigInteger[width + 2];
            Arrays.fill(none, BigInteger.ZERO);
            if (from() < 0) {
                return List.of(none);
            }
            List<Integer> stops = stops();
            List<BigInteger[]> begun = new ArrayList<>();
            for (int place : stops) {
                BigInteger[] here = none.clone();
                here[0] = begun.isEmpty() ? BigInteger.ONE : BigInteger.ZERO;
                for (int start = 0; start < begun.size(); start++) {
                    if (signCost(stops.get(start), place, 0) >= 0) {
                        for (int signs = 1; signs < here.length; signs++) {
                            here[signs] = here[signs].add(begun.get(start)[signs - 1]);
                        }
                    }
                }
                begun.add(here);
            }
            return List.of(begun.get(begun.size() - 1));
        }

        long wayCost(List<Integer> places, int due) {
            long cost = 0;
            for (int i = 1; i < places.size(); i++) {
                long sign = signCost(places.get(i - 1), places.get(i), due);
                if (sign < 0) {
                    return -1;
                }
                cost += sign + (i < places.size() - 1 ? 10L * touch(places.get(i)) : 0);
            }
            return cost;
        }
    }

    private static int compare(Way one, Way other) {
        if (one.cost() != other.cost()) {
            return Long.compare(one.cost(), other.cost());
        }
        int both = Math.min(one.places().size(), other.places().size());
        for (int i = 0; i < both; i++) {
            int order = Integer.compare(one.places().get(i), other.places().get(i));
            if (order != 0) {
                return order;
            }
        }
        return 0;
    }

    private static void due(String what, long got, long want) {
        if (got != want) {
            wrong++;
            if (wrong < 50) {
                System.out.println(what + " answered " + got + ", due is " + want);
            }
        }
    }

    /** What one object was told; no object is asked more than 512 things in all, of which these are a part. */
    private record Stroke(int x, int y, boolean dark) {
    }

    private static SignCutter painted(Slow slow, List<Stroke> strokes) {
        SignCutter line = new SignCutter(slow.width, slow.height);
        for (Stroke stroke : strokes) {
            line.column(stroke.x(), stroke.y(), stroke.dark());
        }
        return line;
    }

    private static List<Stroke> newStrokes(Slow slow, int count, int dense) {
        List<Stroke> strokes = new ArrayList<>();
        for (int i = 0; i < count; i++) {
            Stroke stroke = new Stroke(number(slow.width), number(slow.height), number(100) < dense);
            strokes.add(stroke);
            slow.dark[stroke.x()][stroke.y()] = stroke.dark();
        }
        return strokes;
    }

    private static void compareLooks(String what, SignCutter line, Slow slow) {
        for (int which = -1; which <= 6; which++) {
            due(what + "base(" + which + ")", line.base(which), slow.base(which));
        }
        due(what + "slant()", line.slant(), slow.slant());
        List<BigInteger> counts = slow.counts();
        for (int k = 0; k < counts.size(); k++) {
            due(what + "plain(" + k + ")", line.plain(k), counts.get(k).min(BILLION).longValueExact());
        }
    }

    /** Some ways from each object, as all of them would be too many calls. */
    private static void compareFound(String what, Slow slow, List<Stroke> strokes, int asked, List<Way> ways) {
        int found = Math.min(asked, ways.size());
        for (int first = 0; first == 0 || first < found; first += 3) {
            SignCutter line = painted(slow, strokes);
            due(what + "cut(" + asked + ")", line.cut(asked), found);
            for (int k = first; k < Math.min(first + 3, found); k++) {
                compareWay(what + "cut(" + asked + "), ", line, k, ways.get(k));
            }
            due(what + "cut(" + asked + "), cost(" + found + ")", line.cost(found), -1);
        }
    }

    private static void compareWay(String what, SignCutter line, int k, Way way) {
        due(what + "cost(" + k + ")", line.cost(k), way.cost());
        due(what + "signs(" + k + ")", line.signs(k), way.places().size() - 1);
        for (int i = 0; i < way.places().size(); i++) {
            due(what + "way(" + k + ", " + i + ")", line.way(k, i), way.places().get(i));
        }
        due(what + "way(" + k + ", end)", line.way(k, way.places().size()), -1);
    }

    /** Each line is painted on and cut again three times, the object that sees it all among them. */
    private static void smallLines() {
        for (int run = 0; run < 600; run++) {
            Slow slow = new Slow(1 + number(12), 1 + number(run % 3 == 0 ? 40 : 6));
            SignCutter longUsed = new SignCutter(slow.width, slow.height);
            List<Stroke> strokes = new ArrayList<>();
            for (int step = 0; step < 3; step++) {
                String what = "small line " + run + "." + step + ": ";
                int most = Math.min(75, slow.width * slow.height);
                List<Stroke> more = newStrokes(slow, 1 + number(most), 20 + number(80));
                strokes.addAll(more);
                for (Stroke stroke : more) {
                    longUsed.column(stroke.x(), stroke.y(), stroke.dark());
                }
                List<Way> ways = slow.ways();
                compareLooks(what, longUsed, slow);
                int asked = 1 + number(40);
                due(what + "cut(" + asked + ")", longUsed.cut(asked), Math.min(asked, ways.size()));
                for (int k = 0; k < Math.min(asked, ways.size()); k++) {
                    due(what + "long used, cost(" + k + ")", longUsed.cost(k), ways.get(k).cost());
                }
                compareFound(what, slow, strokes, 40, ways);
                compareFound(what, slow, strokes, asked, ways);
                compareFound(what, slow, strokes, 1, ways);
                compareCounts(what, slow, ways);
                List<Way> first = ways.subList(0, Math.min(40, ways.size()));
                due(what + "ways kept", slow.cheapestWays().equals(first) ? 1 : 0, 1);
            }
        }
    }

    /** The slow class's own counts, against the ways that it found by trying. */
    private static void compareCounts(String what, Slow slow, List<Way> ways) {
        List<BigInteger> counts = slow.counts();
        for (int k = 0; k < counts.size(); k++) {
            int signs = k;
            long tried = ways.stream().filter(way -> way.places().size() == signs + 1).count();
            due(what + "counted ways of " + k + " signs", counts.get(k).longValueExact(), tried);
        }
    }

    /** Too many ways to try them all: the 40 cheapest to each place are kept, from left to right. */
    private static void wideLines() {
        for (int run = 0; run < 150; run++) {
            Slow slow = new Slow(40 + number(21), 1 + number(run % 3 == 0 ? 40 : 5));
            List<Stroke> strokes = newStrokes(slow, 1 + number(run % 2 == 0 ? 30 : 250), 95);
            String what = "wide line " + run + ": ";
            compareLooks(what, painted(slow, strokes), slow);
            compareFound(what, slow, strokes, 40, slow.cheapestWays());
        }
    }

    public static void main(String[] args) {
        smallLines();
        wideLines();
        System.out.println(wrong == 0 ? "the two agree" : wrong + " answers differ");
        if (wrong != 0) {
            System.exit(1);
        }
    }
}
