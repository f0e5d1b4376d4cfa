import java.util.ArrayList;
import java.util.HashSet;
import java.util.List;
import java.util.Set;

/** Compares the class with a slow one that tries every row of places, on many made-up lines. */
public final class ReferenceTest {
    private static int wrong = 0;
    private static long seed = 20261115L;

    /** The same numbers in each run. */
    private static int number(int below) {
        seed = seed * 6364136223846793005L + 1442695040888963407L;
        return (int) ((seed >>> 33) % below);
    }

    private record Way(List<Integer> places, long cost) {
    }

    /** The document's terms, word by word. */
    private static final class Slow {
        final boolean[][] dark;
        final int width;
        final int height;

        Slow(int width, int height) {
            this.width = width;
            this.height = height;
            dark = new boolean[width][height];
        }

        boolean darkIn(int x) {
            for (boolean spot : dark[x]) {
                if (spot) {
                    return true;
                }
            }
            return false;
        }

        int from() {
            int x = 0;
            while (x < width && !darkIn(x)) {
                x++;
            }
            return x == width ? -1 : x;
        }

        int until() {
            int x = width;
            while (x > 0 && !darkIn(x - 1)) {
                x--;
            }
            return x;
        }

        List<Integer> strongRows() {
            int[] counts = new int[height];
            int most = 0;
            for (int y = 0; y < height; y++) {
                for (int x = 0; x < width; x++) {
                    counts[y] += dark[x][y] ? 1 : 0;
                }
                most = Math.max(most, counts[y]);
            }
            List<Integer> strong = new ArrayList<>();
            for (int y = 0; y < height; y++) {
                if (counts[y] >= most / 2.0) {
                    strong.add(y);
                }
            }
            return strong;
        }

        int touch(int place) {
            int rows = 0;
            for (int y = 0; y < height; y++) {
                rows += dark[place - 1][y] && dark[place][y] ? 1 : 0;
            }
            return rows;
        }

        List<Integer> placesToCut() {
            List<Integer> places = new ArrayList<>();
            for (int place = from() + 1; place < until(); place++) {
                if (touch(place) <= 2 && (darkIn(place - 1) || darkIn(place))) {
                    places.add(place);
                }
            }
            return places;
        }

        int base(int which) {
            if (from() < 0) {
                return -1;
            }
            List<Integer> strong = strongRows();
            int middle = strong.get(0);
            int base = strong.get(strong.size() - 1);
            int[] answers = {middle, base, (int) Math.floor(0.75 * (base - middle)) + 2, from(), until(),
                placesToCut().size()};
            return which < 0 || which >= answers.length ? -1 : answers[which];
        }

        int slant() {
            int best = 0;
            int fewest = Integer.MAX_VALUE;
            for (int b = -6; b <= 6; b++) {
                Set<Integer> reached = new HashSet<>();
                for (int x = 0; x < width; x++) {
                    for (int y = 0; y < height; y++) {
                        if (dark[x][y]) {
                            reached.add((int) Math.floor(x + b * (height - 1 - y) / 8.0));
                        }
                    }
                }
                boolean nearer = Math.abs(b) < Math.abs(best);
                if (reached.size() < fewest || reached.size() == fewest && nearer) {
                    fewest = reached.size();
                    best = b;
                }
            }
            return best;
        }

        /** -1 if there is no dark spot in the sign. */
        long signCost(int left, int right, int due) {
            int first = left;
            while (first < right && !darkIn(first)) {
                first++;
            }
            if (first == right) {
                return -1;
            }
            int last = right - 1;
            while (!darkIn(last)) {
                last--;
            }
            long cost = (long) (last - first + 1 - due) * (last - first + 1 - due);
            for (int x = first; x <= last; x++) {
                cost += darkIn(x) ? 0 : 5;
            }
            int torn = 0;
            for (int y = 0; y < height; y++) {
                torn += isTorn(y, left, right) ? 1 : 0;
            }
            return cost + (torn == 0 ? 0 : (torn - 1) * 2L);
        }

        boolean isTorn(int y, int left, int right) {
            StringBuilder row = new StringBuilder();
            for (int x = left; x < right; x++) {
                row.append(dark[x][y] ? '#' : ' ');
            }
            return row.toString().trim().indexOf(' ') >= 0;
        }

        List<Way> ways() {
            List<Way> ways = new ArrayList<>();
            if (from() < 0) {
                return ways;
            }
            List<Integer> cuttable = placesToCut();
            int due = base(2);
            for (int chosen = 0; chosen < 1 << cuttable.size(); chosen++) {
                List<Integer> places = new ArrayList<>();
                places.add(from());
                for (int i = 0; i < cuttable.size(); i++) {
                    if ((chosen >> i & 1) != 0) {
                        places.add(cuttable.get(i));
                    }
                }
                places.add(until());
                long cost = wayCost(places, due);
                if (cost >= 0) {
                    ways.add(new Way(places, cost));
                }
            }
            ways.sort(ReferenceTest::compare);
            return ways;
        }

        long wayCost(List<Integer> places, int due) {
            long cost = 0;
            for (int i = 1; i < places.size(); i++) {
                long sign = signCost(places.get(i - 1), places.get(i), due);
                if (sign < 0) {
                    return -1;
                }
                cost += sign + (i < places.size() - 1 ? 10L * touch(places.get(i)) : 0);
            }
            return cost;
        }
    }

    private static int compare(Way one, Way other) {
        if (one.cost() != other.cost()) {
            return Long.compare(one.cost(), other.cost());
        }
        int both = Math.min(one.places().size(), other.places().size());
        for (int i = 0; i < both; i++) {
            int order = Integer.compare(one.places().get(i), other.places().get(i));
            if (order != 0) {
                return order;
            }
        }
        return 0;
    }

    private static void due(String what, long got, long want) {
        if (got != want) {
            wrong++;
            if (wrong < 50) {
                System.out.println(what + " answered " + got + ", due is " + want);
            }
        }
    }

    private static void compareLooks(String what, SignCutter line, Slow slow) {
        for (int which = -1; which <= 6; which++) {
            due(what + "base(" + which + ")", line.base(which), slow.base(which));
        }
        due(what + "slant()", line.slant(), slow.slant());
    }

    private static void compareWays(String what, SignCutter line, List<Way> ways, int width) {
        for (int k = 0; k <= width + 1; k++) {
            int signs = k;
            long want = ways.stream().filter(way -> way.places().size() == signs + 1).count();
            due(what + "plain(" + k + ")", line.plain(k), want);
        }
        int[] asked = {40, 1 + number(40), 1};
        for (int k : asked) {
            int found = line.cut(k);
            due(what + "cut(" + k + ")", found, Math.min(k, ways.size()));
            compareFound(what + "cut(" + k + "), ", line, ways, Math.min(k, ways.size()));
        }
    }

    private static void compareFound(String what, SignCutter line, List<Way> ways, int found) {
        for (int k = 0; k < found; k++) {
            Way way = ways.get(k);
            due(what + "cost(" + k + ")", line.cost(k), way.cost());
            due(what + "signs(" + k + ")", line.signs(k), way.places().size() - 1);
            for (int i = 0; i < way.places().size(); i++) {
                due(what + "way(" + k + ", " + i + ")", line.way(k, i), way.places().get(i));
            }
            due(what + "way(" + k + ", end)", line.way(k, way.places().size()), -1);
        }
        due(what + "cost(" + found + ")", line.cost(found), -1);
    }

    private static void paint(SignCutter line, Slow slow, int strokes, int dense) {
        for (int i = 0; i < strokes; i++) {
            int x = number(slow.width);
            int y = number(slow.height);
            boolean dark = number(100) < dense;
            line.column(x, y, dark);
            slow.dark[x][y] = dark;
        }
    }

    private static void smallLines() {
        for (int run = 0; run < 600; run++) {
            int width = 1 + number(12);
            int height = 1 + number(run % 3 == 0 ? 40 : 6);
            SignCutter line = new SignCutter(width, height);
            Slow slow = new Slow(width, height);
            for (int step = 0; step < 3; step++) {
                paint(line, slow, 1 + number(width * height), 20 + number(80));
                String what = "small line " + run + "." + step + ": ";
                compareLooks(what, line, slow);
                compareWays(what, line, slow.ways(), width);
            }
        }
    }

    /** Too many ways to try them all: what is seen at a glance alone. */
    private static void wideLines() {
        for (int run = 0; run < 150; run++) {
            int width = 40 + number(21);
            int height = 20 + number(21);
            SignCutter line = new SignCutter(width, height);
            Slow slow = new Slow(width, height);
            paint(line, slow, 1 + number(run % 2 == 0 ? 12 : 1500), 95);
            compareLooks("wide line " + run + ": ", line, slow);
            compareOwnCosts("wide line " + run + ": ", line, slow);
        }
    }

    /** What is found must be ways in their order, each of which costs what it says. */
    private static void compareOwnCosts(String what, SignCutter line, Slow slow) {
        int found = line.cut(40);
        Way before = null;
        for (int k = 0; k < found; k++) {
            List<Integer> places = new ArrayList<>();
            for (int i = 0; i <= line.signs(k); i++) {
                places.add(line.way(k, i));
            }
            Way way = new Way(places, line.cost(k));
            due(what + "cost(" + k + ")", way.cost(), slow.wayCost(places, slow.base(2)));
            due(what + "order at " + k, before == null || compare(before, way) < 0 ? 1 : 0, 1);
            before = way;
        }
    }

    public static void main(String[] args) {
        smallLines();
        wideLines();
        System.out.println(wrong == 0 ? "the two agree" : wrong + " answers differ");
        if (wrong != 0) {
            System.exit(1);
        }
    }
}
