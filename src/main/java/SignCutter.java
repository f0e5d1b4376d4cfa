/**
 * A line of what is written, cut to signs: its base and middle, its slant, the places where it may
 * be cut, and the cheapest ways of cutting it, one behind the other.
 */
public final class SignCutter {
    public static final int NONE = -1;

    private static final int WIDEST = 60;
    private static final int HIGHEST = 40;
    private static final int MOST_WAYS = 40;
    private static final int MOST_COUNTED = 1000000000;

    private static final int MOST_TOUCH = 2;
    private static final int TOUCH_COST = 10;
    private static final int EMPTY_COLUMN_COST = 5;
    private static final int TORN_ROW_COST = 2;

    private static final int MOST_SHEAR = 6;
    private static final int SHEAR_DIVISOR = 8;
    /** No spot goes further aside than 6 * 39 / 8, rounded away from 0. */
    private static final int SHEAR_ROOM = 30;

    private final int width;
    private final int height;

    /**
     * The dark spots, twice: bit y of column x, and bit x of row y. Signs are looked at by columns,
     * base and slant by rows, and neither has to go through all spots then.
     */
    private final long[] columns;
    private final long[] rows;

    /**
     * The cheapest ends of ways, a shelf of MOST_WAYS for each place at which such an end starts, the
     * cheapest first. An end is a set of places: bit p is set if p is one of them (61 places at most).
     * Only cut writes here, so that the shelf of foundFrom keeps what it has found.
     */
    private final long[] ends;
    private final int[] endCosts;
    private final int[] endCounts;
    private int foundFrom;
    private int found;

    /** How many ends of ways, of a given number of signs, start at a place or behind it. */
    private final int[] tails;
    private final int[] longerTails;

    public SignCutter(int width, int height) {
        this.width = Math.max(1, Math.min(WIDEST, width));
        this.height = Math.max(1, Math.min(HIGHEST, height));
        int places = this.width + 1;
        columns = new long[this.width];
        rows = new long[this.height];
        ends = new long[places * MOST_WAYS];
        endCosts = new int[places * MOST_WAYS];
        endCounts = new int[places];
        tails = new int[places];
        longerTails = new int[places];
    }

    public void column(int x, int y, boolean dark) throws ArrayIndexOutOfBoundsException {
        if (x < 0 || x >= width || y < 0 || y >= height) {
            throw new ArrayIndexOutOfBoundsException("there is no such spot");
        }
        if (dark) {
            columns[x] |= 1L << y;
            rows[y] |= 1L << x;
        } else {
            columns[x] &= ~(1L << y);
            rows[y] &= ~(1L << x);
        }
    }

    public int cut(int k) {
        if (k < 1 || k > MOST_WAYS) {
            return NONE;
        }
        int from = firstDarkColumn();
        if (from == NONE) {
            found = 0;
            return 0;
        }
        int until = lastDarkColumn() + 1;
        shelveUntil(until);
        shelveEnds(from, until, k);
        foundFrom = from;
        found = endCounts[from];
        return found;
    }

    public int way(int k, int i) {
        if (!isFound(k) || i < 0) {
            return NONE;
        }
        long places = ends[shelf(foundFrom) + k];
        int before = 0;
        for (int place = 0; place <= width; place++) {
            if (has(places, place)) {
                if (before == i) {
                    return place;
                }
                before++;
            }
        }
        return NONE;
    }

    public long cost(int k) {
        return isFound(k) ? endCosts[shelf(foundFrom) + k] : NONE;
    }

    public int signs(int k) {
        return isFound(k) ? Long.bitCount(ends[shelf(foundFrom) + k]) - 1 : NONE;
    }

    public int base(int which) {
        if (firstDarkColumn() == NONE) {
            return NONE;
        }
        switch (which) {
            case 0:
                return firstStrongRow();
            case 1:
                return lastStrongRow();
            case 2:
                return dueWidth();
            case 3:
                return firstDarkColumn();
            case 4:
                return lastDarkColumn() + 1;
            case 5:
                return Long.bitCount(placesToCut(firstDarkColumn(), lastDarkColumn() + 1));
            default:
                return NONE;
        }
    }

    public int slant() {
        int best = 0;
        int fewest = shearedColumns(0);
        for (int shear = 1; shear <= MOST_SHEAR; shear++) {
            // Those nearer to 0 come first, and -shear before shear: only fewer columns win.
            int backward = shearedColumns(-shear);
            if (backward < fewest) {
                fewest = backward;
                best = -shear;
            }
            int forward = shearedColumns(shear);
            if (forward < fewest) {
                fewest = forward;
                best = shear;
            }
        }
        return best;
    }

    public int plain(int k) {
        int from = firstDarkColumn();
        if (from == NONE || k < 1 || k > width) {
            return 0;
        }
        int until = lastDarkColumn() + 1;
        long cuttable = placesToCut(from, until);
        // Without a sign, the only end of a way is UNTIL alone.
        for (int place = 0; place <= until; place++) {
            tails[place] = 1;
        }
        for (int signs = 1; signs < k; signs++) {
            lengthenTails(from, until, cuttable);
        }
        // The first sign has a dark spot in its first column, so that it may end anywhere behind it.
        return tails[from + 1];
    }

    // The spots

    private static boolean has(long set, int member) {
        return (set >>> member & 1L) != 0;
    }

    private int firstDarkColumn() {
        for (int x = 0; x < width; x++) {
            if (columns[x] != 0) {
                return x;
            }
        }
        return NONE;
    }

    private int lastDarkColumn() {
        for (int x = width - 1; x >= 0; x--) {
            if (columns[x] != 0) {
                return x;
            }
        }
        return NONE;
    }

    private int darkInRow(int y) {
        return Long.bitCount(rows[y]);
    }

    private int mostDarkInARow() {
        int most = 0;
        for (int y = 0; y < height; y++) {
            most = Math.max(most, darkInRow(y));
        }
        return most;
    }

    private int firstStrongRow() {
        int most = mostDarkInARow();
        for (int y = 0; y < height; y++) {
            if (2 * darkInRow(y) >= most) {
                return y;
            }
        }
        return NONE;
    }

    private int lastStrongRow() {
        int most = mostDarkInARow();
        for (int y = height - 1; y >= 0; y--) {
            if (2 * darkInRow(y) >= most) {
                return y;
            }
        }
        return NONE;
    }

    private int dueWidth() {
        return (lastStrongRow() - firstStrongRow()) * 3 / 4 + 2;
    }

    /** The columns go into two words: sheared, a line is up to 60 + 2 * 30 columns wide. */
    private int shearedColumns(int shear) {
        long near = 0;
        long far = 0;
        for (int y = 0; y < height; y++) {
            int aside = SHEAR_ROOM + Math.floorDiv(shear * (height - 1 - y), SHEAR_DIVISOR);
            near |= rows[y] << aside;
            // In two steps, as a shift by 64 would be one by 0.
            far |= rows[y] >>> 1 >>> 63 - aside;
        }
        return Long.bitCount(near) + Long.bitCount(far);
    }

    // The places

    /** The place must have a column on either side. */
    private int touch(int place) {
        return Long.bitCount(columns[place - 1] & columns[place]);
    }

    private long placesToCut(int from, int until) {
        long places = 0;
        for (int place = from + 1; place < until; place++) {
            boolean besideDark = (columns[place - 1] | columns[place]) != 0;
            if (besideDark && touch(place) <= MOST_TOUCH) {
                places |= 1L << place;
            }
        }
        return places;
    }

    /** Each of the tails gets one sign more in front of it. */
    private void lengthenTails(int from, int until, long cuttable) {
        int nextDark = until - 1;
        longerTails[until] = 0;
        for (int place = until - 1; place > from; place--) {
            if (columns[place] != 0) {
                nextDark = place;
            }
            // Two numbers up to 10^9 have a sum that an int can hold.
            int here = has(cuttable, place) ? tails[nextDark + 1] : 0;
            longerTails[place] = Math.min(MOST_COUNTED, longerTails[place + 1] + here);
        }
        System.arraycopy(longerTails, from + 1, tails, from + 1, until - from);
    }

    // The cheapest ways

    private boolean isFound(int k) {
        return k >= 0 && k < found;
    }

    private static int shelf(int place) {
        return place * MOST_WAYS;
    }

    private void shelveUntil(int until) {
        ends[shelf(until)] = 1L << until;
        endCosts[shelf(until)] = 0;
        endCounts[until] = 1;
    }

    private void shelveEnds(int from, int until, int most) {
        int due = dueWidth();
        long cuttable = placesToCut(from, until);
        long stops = cuttable | 1L << until;
        // From right to left: an end that starts here goes on with one that is shelved already.
        for (int place = until - 1; place > from; place--) {
            if (has(cuttable, place)) {
                shelveEndsAt(place, until, stops, due, most);
            }
        }
        shelveEndsAt(from, until, stops, due, most);
    }

    /** Lets a sign grow from its start, column by column, and goes on from each stop it reaches. */
    private void shelveEndsAt(int start, int until, long stops, int due, int most) {
        endCounts[start] = 0;
        int first = NONE;
        int last = NONE;
        int darkColumns = 0;
        long begun = 0;
        long interrupted = 0;
        long torn = 0;
        for (int x = start; x < until; x++) {
            long column = columns[x];
            torn |= interrupted & column;
            interrupted |= begun & ~column;
            begun |= column;
            if (column != 0) {
                first = first == NONE ? x : first;
                last = x;
                darkColumns++;
            }
            int stop = x + 1;
            if (begun != 0 && has(stops, stop)) {
                int signWidth = last - first + 1;
                int cost = signCost(signWidth, signWidth - darkColumns, Long.bitCount(torn), due);
                goOnFrom(stop, start, cost + (stop < until ? TOUCH_COST * touch(stop) : 0), most);
            }
        }
    }

    private static int signCost(int signWidth, int emptyColumns, int tornRows, int due) {
        int off = signWidth - due;
        int rows = tornRows == 0 ? 0 : TORN_ROW_COST * (tornRows - 1);
        return off * off + EMPTY_COLUMN_COST * emptyColumns + rows;
    }

    /** Puts the start before each end that is shelved at the stop, while it is among the cheapest. */
    private void goOnFrom(int stop, int start, int cost, int most) {
        int count = endCounts[stop];
        for (int i = 0; i < count; i++) {
            int at = shelf(stop) + i;
            if (!shelve(start, cost + endCosts[at], ends[at] | 1L << start, most)) {
                return;
            }
        }
    }

    /**
     * Ends of the same cost come here in the order of their places (nearer stops come first, and the
     * ends of one stop are in order), so that a new one belongs behind its equals.
     */
    private boolean shelve(int start, int cost, long end, int most) {
        int shelf = shelf(start);
        int count = endCounts[start];
        if (count >= most && endCosts[shelf + most - 1] <= cost) {
            return false;
        }
        int free = Math.min(count, most - 1);
        while (free > 0 && endCosts[shelf + free - 1] > cost) {
            endCosts[shelf + free] = endCosts[shelf + free - 1];
            ends[shelf + free] = ends[shelf + free - 1];
            free--;
        }
        endCosts[shelf + free] = cost;
        ends[shelf + free] = end;
        endCounts[start] = Math.min(count + 1, most);
        return true;
    }
}
