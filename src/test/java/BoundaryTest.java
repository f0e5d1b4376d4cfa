import java.util.ArrayList;
import java.util.List;

/**
 * Each sentence of the document that names a boundary case, in the document's order: one test for each,
 * which fails if that sentence is broken, and says which one it was.
 */
public final class BoundaryTest {
    private static final int NONE = -1;
    private static final int LEAST = Integer.MIN_VALUE;
    private static final int MOST = Integer.MAX_VALUE;
    private static final int MOST_CALLS = 512;
    private static final int BILLION = 1000000000;

    private static String sentence = "";
    private static int sentences = 0;
    private static int wrong = 0;

    public static void main(String[] args) {
        whatItIs();
        rowsAndColumns();
        slants();
        placesAndWidth();
        waysAndCosts();
        orderAndThrows();
        newObjectAndColumn();
        cutAndItsAnswers();
        baseSlantAndPlain();
        System.out.println(wrong == 0 ? "all " + sentences + " sentences hold" : wrong + " answers are not as due");
        if (wrong != 0) {
            System.exit(1);
        }
    }

    // What the tests are written with

    /** Nothing is promised of an object after its 512th call, so that no test may ask for more. */
    private static final class Line {
        private final SignCutter cutter;
        private int calls = 0;

        Line(int width, int height) {
            cutter = new SignCutter(width, height);
        }

        private SignCutter next() {
            calls++;
            if (calls > MOST_CALLS) {
                throw new IllegalStateException("a test makes more than " + MOST_CALLS + " calls of one object");
            }
            return cutter;
        }

        void dark(int x, int y) {
            next().column(x, y, true);
        }

        void bright(int x, int y) {
            next().column(x, y, false);
        }

        int cut(int k) {
            return next().cut(k);
        }

        int way(int k, int i) {
            return next().way(k, i);
        }

        long cost(int k) {
            return next().cost(k);
        }

        int signs(int k) {
            return next().signs(k);
        }

        int base(int which) {
            return next().base(which);
        }

        int slant() {
            return next().slant();
        }

        int plain(int k) {
            return next().plain(k);
        }

        /** 0 if the call throws nothing, 1 if it throws what is due by a throw of its own, 2 otherwise. */
        int thrown(int x, int y, boolean dark) {
            try {
                next().column(x, y, dark);
                return 0;
            } catch (RuntimeException e) {
                // The machine's own text tells the index, and is left out where the machine throws often:
                // then nothing looked at the index before its use.
                boolean byMachine = e.getMessage() == null || e.getMessage().startsWith("Index ");
                return e.getClass() == ArrayIndexOutOfBoundsException.class && !byMachine ? 1 : 2;
            }
        }
    }

    private static void sentence(String quoted) {
        sentence = quoted;
        sentences++;
    }

    private static void due(String what, long got, long want) {
        if (got != want) {
            wrong++;
            System.out.println("\"" + sentence + "\": " + what + " answered " + got + ", due is " + want);
        }
    }

    /** '#' is a dark spot, '.' a bright one. */
    private static Line line(String... rows) {
        Line line = new Line(rows[0].length(), rows.length);
        for (int y = 0; y < rows.length; y++) {
            for (int x = 0; x < rows[y].length(); x++) {
                if (rows[y].charAt(x) == '#') {
                    line.dark(x, y);
                }
            }
        }
        return line;
    }

    private static Line spots(int width, int height, int... xsAndYs) {
        Line line = new Line(width, height);
        for (int i = 0; i < xsAndYs.length; i += 2) {
            line.dark(xsAndYs[i], xsAndYs[i + 1]);
        }
        return line;
    }

    /** The row's first spots are dark. */
    private static void darken(Line line, int y, int count) {
        for (int x = 0; x < count; x++) {
            line.dark(x, y);
        }
    }

    private static void dueWay(String what, Line line, int k, long cost, int... places) {
        String way = what + ", way " + k + ": ";
        due(way + "cost", line.cost(k), cost);
        due(way + "signs", line.signs(k), places.length - 1);
        for (int i = 0; i < places.length; i++) {
            due(way + "place " + i, line.way(k, i), places[i]);
        }
        due(way + "place " + places.length, line.way(k, places.length), NONE);
    }

    private static void dueNoWay(String what, Line line, int k) {
        due(what + ": way(" + k + ", 0)", line.way(k, 0), NONE);
        due(what + ": cost(" + k + ")", line.cost(k), NONE);
        due(what + ": signs(" + k + ")", line.signs(k), NONE);
    }

    /** All that can be asked of a line of up to three columns, cut or not, without changing it. */
    private static List<Long> answers(Line line) {
        List<Long> answers = new ArrayList<>();
        for (int which = -1; which <= 6; which++) {
            answers.add((long) line.base(which));
        }
        answers.add((long) line.slant());
        for (int k = 0; k <= 4; k++) {
            answers.add((long) line.plain(k));
            answers.add(line.cost(k));
            answers.add((long) line.signs(k));
            for (int i = 0; i <= 4; i++) {
                answers.add((long) line.way(k, i));
            }
        }
        return answers;
    }

    private static void dueSame(String what, List<Long> got, List<Long> want) {
        due(what + ", " + got + " for " + want + ", same", got.equals(want) ? 1 : 0, 1);
    }

    // What it is

    private static void whatItIs() {
        theLastOf512CallsIsAnswered();
        refusedCallsAreCallsToo();
    }

    private static Line longRow() {
        Line line = new Line(60, 1);
        darken(line, 0, 60);
        line.cut(40);
        return line;
    }

    private static void spend(Line line, int calls) {
        while (line.calls < calls) {
            ask(line, line.calls % 7);
        }
    }

    private static long ask(Line line, int call) {
        switch (call) {
            case 0:
                return line.cut(40);
            case 1:
                return line.plain(30);
            case 2:
                return line.way(39, 3);
            case 3:
                return line.cost(39);
            case 4:
                return line.signs(39);
            case 5:
                return line.base(5);
            case 6:
                return line.slant();
            case 7:
                return line.thrown(59, 0, false);
            default:
                return line.thrown(60, 0, true);
        }
    }

    private static void theLastOf512CallsIsAnswered() {
        sentence("An object is used for at most 512 calls after it has been made; what later calls answer is free.");
        for (int call = 0; call <= 8; call++) {
            long early = ask(longRow(), call);
            Line late = longRow();
            spend(late, MOST_CALLS - 1);
            due("call 512, kind " + call, ask(late, call), early);
        }
        due("cut(40), early", ask(longRow(), 0), 40);
        due("plain(30), early", ask(longRow(), 1), BILLION);
        due("base(5), early", ask(longRow(), 5), 59);
        Line painted = new Line(60, 40);
        for (int spot = 0; spot < MOST_CALLS - 2; spot++) {
            painted.dark(spot % 59, spot / 59);
        }
        painted.dark(59, 39);
        due("UNTIL after 511 spots", painted.base(4), 60);
    }

    private static void refusedCallsAreCallsToo() {
        sentence("An object is used for at most 512 calls (refused ones)");
        Line line = line("#.#");
        while (line.calls < MOST_CALLS - 2) {
            due("column(3, 0, true) thrown", line.thrown(3, 0, true), 1);
            due("cut(41)", line.cut(41), NONE);
        }
        due("call 511: cut(40)", line.cut(40), 3);
        due("call 512: cost(2)", line.cost(2), 6);
    }

    // Terms: rows and columns

    private static void rowsAndColumns() {
        eachSpotIsOneOfItsOwn();
        placesGoFromZeroToTheWidth();
        halfOfTheMostIsStrong();
        middleAndBaseAreTheOuterStrongRows();
        noMiddleOrBaseWithoutADarkSpot();
    }

    private static void eachSpotIsOneOfItsOwn() {
        sentence("A LINE has W times H spots, bright at first; COLUMNS x go from the left, ROWS y from the top.");
        for (int x = 0; x < 60; x++) {
            for (int y = 0; y < 40; y++) {
                String spot = "spot " + x + ", " + y + ": ";
                Line line = new Line(60, 40);
                due(spot + "FROM at first", line.base(3), NONE);
                line.dark(x, y);
                due(spot + "FROM", line.base(3), x);
                due(spot + "UNTIL", line.base(4), x + 1);
                due(spot + "MIDDLE", line.base(0), y);
                due(spot + "BASE", line.base(1), y);
                line.bright(x, y);
                due(spot + "FROM when it is bright again", line.base(3), NONE);
                due(spot + "MIDDLE when it is bright again", line.base(0), NONE);
            }
        }
    }

    private static void placesGoFromZeroToTheWidth() {
        sentence("PLACE x (0 .. W) is in front of column x.");
        int[] widths = {1, 2, 59, 60};
        for (int width : widths) {
            Line line = new Line(width, 1);
            darken(line, 0, width);
            due(width + " columns: cut(1)", line.cut(1), 1);
            due(width + " columns: first place", line.way(0, 0), 0);
            due(width + " columns: last place", line.way(0, line.signs(0)), width);
            due(width + " columns: places between", line.base(5), width - 1);
        }
    }

    private static void dueStrong(int most, int few, boolean strong) {
        Line line = new Line(60, 3);
        darken(line, 0, few);
        darken(line, 1, most);
        darken(line, 2, few);
        due(few + " where the most is " + most + ": MIDDLE", line.base(0), strong ? 0 : 1);
        due(few + " where the most is " + most + ": BASE", line.base(1), strong ? 2 : 1);
    }

    private static void halfOfTheMostIsStrong() {
        sentence("A row is STRONG if it has at least half as many dark spots as the row that has most of them.");
        dueStrong(1, 0, false);
        dueStrong(1, 1, true);
        dueStrong(2, 1, true);
        dueStrong(3, 1, false);
        dueStrong(3, 2, true);
        dueStrong(4, 1, false);
        dueStrong(4, 2, true);
        dueStrong(5, 2, false);
        dueStrong(5, 3, true);
        dueStrong(59, 29, false);
        dueStrong(59, 30, true);
        dueStrong(60, 29, false);
        dueStrong(60, 30, true);
        dueStrong(60, 60, true);
    }

    private static void middleAndBaseAreTheOuterStrongRows() {
        sentence("MIDDLE is the first strong row, BASE the last one.");
        Line one = line("#...", "####", "#...");
        due("one strong row: MIDDLE", one.base(0), 1);
        due("one strong row: BASE", one.base(1), 1);
        Line holed = line("....", ".#..", "##..", "....", "####", ".#..", "..##", "#...");
        due("weak rows between and outside: MIDDLE", holed.base(0), 2);
        due("weak rows between and outside: BASE", holed.base(1), 6);
        Line all = spots(1, 40, 0, 0, 0, 39);
        due("first and last row: MIDDLE", all.base(0), 0);
        due("first and last row: BASE", all.base(1), 39);
    }

    private static void noMiddleOrBaseWithoutADarkSpot() {
        sentence("MIDDLE is the first strong row, BASE the last one (none without a dark spot).");
        Line line = new Line(60, 40);
        due("new: MIDDLE", line.base(0), NONE);
        due("new: BASE", line.base(1), NONE);
        line.dark(7, 9);
        due("a dark spot: MIDDLE", line.base(0), 9);
        line.bright(7, 9);
        due("bright again: MIDDLE", line.base(0), NONE);
        due("bright again: BASE", line.base(1), NONE);
        line.bright(7, 9);
        due("a bright spot made bright: MIDDLE", line.base(0), NONE);
    }

    // Terms: the slant

    private static void slants() {
        slantIsRoundedDown();
        slantGoesFromMinusSixToSix();
        shearedColumnsOutsideTheLineCount();
        theFewestColumnsWin();
        nearestToZero();
        belowZeroOfTwoAsNear();
    }

    private static void slantIsRoundedDown() {
        sentence("a spot at x, y comes to column x + b (H - 1 - y) / 8 (rounded down)");
        due("-1 / 8 is -1: one to the right in one row", line(".#", "#.").slant(), -1);
        due("6 / 8 is 0: one to the left in one row", line("#.", ".#").slant(), 0);
        // 3 rows higher: 2 * 3 / 8 is 0, 3 * 3 / 8 is 1; -2 * 3 / 8 is -1, -3 * 3 / 8 is -2.
        due("9 / 8 is 1", spots(3, 4, 0, 0, 1, 3).slant(), 3);
        due("-6 / 8 is -1", spots(3, 4, 1, 0, 0, 3).slant(), -1);
        due("-9 / 8 is -2", spots(3, 4, 2, 0, 0, 3).slant(), -3);
        // 8 rows higher there is nothing to round.
        for (int b = -6; b <= 6; b++) {
            due("8 rows, " + b + " aside", spots(13, 9, 6 - b, 0, 6, 8).slant(), b);
        }
        // The last row stays where it is: H - 1 - y is 0 there.
        due("one row", line("#.#.#").slant(), 0);
        due("the two last rows of three", line("...", ".#.", "#..").slant(), -1);
    }

    /** What 39 rows bring a spot aside with b from -6 to 6. */
    private static final int[] ASIDE = {-30, -25, -20, -15, -10, -5, 0, 4, 9, 14, 19, 24, 29};

    private static int shearFor(int aside) {
        for (int i = 0; i < ASIDE.length; i++) {
            if (ASIDE[i] == aside) {
                return i - 6;
            }
        }
        return 0;
    }

    private static void slantGoesFromMinusSixToSix() {
        sentence("of b from -6 to 6 the one with which dark spots come to the fewest different columns");
        due("6", spots(60, 40, 0, 0, 29, 39).slant(), 6);
        due("-6", spots(60, 40, 30, 0, 0, 39).slant(), -6);
        // With 7 it would be 34, with -7 it would be -35.
        due("not 7", spots(60, 40, 0, 0, 34, 39).slant(), 0);
        due("not -7", spots(60, 40, 35, 0, 0, 39).slant(), 0);
        due("not 7 in 8 rows", spots(13, 9, 0, 0, 7, 8).slant(), 0);
        due("not -7 in 8 rows", spots(13, 9, 7, 0, 0, 8).slant(), 0);
    }

    private static void shearedColumnsOutsideTheLineCount() {
        sentence("sheared by b, a spot at x, y comes to column ..: outside the line too");
        // A column that were lost, held at the edge or wrapped around would make one column of two.
        due("out to the left", spots(2, 40, 1, 0, 0, 39).slant(), 0);
        due("out to the right", spots(2, 40, 0, 0, 1, 39).slant(), 0);
        int[] tops = {0, 1, 30, 58, 59};
        for (int top : tops) {
            for (int foot = 0; foot < 60; foot++) {
                Line line = spots(60, 40, top, 0, foot, 39);
                due("head at " + top + ", foot at " + foot, line.slant(), shearFor(foot - top));
            }
        }
    }

    private static void theFewestColumnsWin() {
        sentence("the one with which dark spots come to the fewest different columns");
        // Spots in the same column count once; three rows lean with -4, two with 2.
        Line line = spots(60, 9, 24, 0, 20, 8, 34, 0, 30, 8, 44, 0, 40, 8, 50, 0, 52, 8, 10, 0, 12, 8);
        due("three of -4, two of 2", line.slant(), -4);
        line.bright(44, 0);
        line.bright(34, 0);
        due("one of -4, two of 2", line.slant(), 2);
    }

    private static void nearestToZero() {
        sentence("of several the one nearest to 0");
        due("all are equal in one row", line("##.##").slant(), 0);
        // One row higher -1 to -6 are all -1 aside; two rows higher 4, 5 and 6 are 1 aside.
        due("-1 of -1 .. -6", line(".#", "#.").slant(), -1);
        due("4 of 4 .. 6", line("#.", "..", ".#").slant(), 4);
        due("-5 of -5 and -6", line("..#", "...", "#..").slant(), -5);
        // -3 is nearer to 0 than 4, and 3 nearer than -4, whichever is tried first.
        due("-3 and 4 with one column less each", spots(40, 9, 13, 0, 10, 8, 20, 0, 24, 8).slant(), -3);
        due("3 and -4 with one column less each", spots(40, 9, 10, 0, 13, 8, 24, 0, 20, 8).slant(), 3);
        due("0 and 1 with one column less each", spots(40, 9, 10, 0, 10, 8, 20, 0, 21, 8).slant(), 0);
        due("0 and -1 with one column less each", spots(40, 9, 10, 0, 10, 8, 21, 0, 20, 8).slant(), 0);
    }

    private static void belowZeroOfTwoAsNear() {
        sentence("of two such that below 0");
        for (int b = 1; b <= 6; b++) {
            Line line = spots(60, 9, 10, 0, 10 + b, 8, 40 + b, 0, 40, 8);
            due("-" + b + " and " + b + " with one column less each", line.slant(), -b);
        }
    }

    // Terms: the width, and the places

    private static void placesAndWidth() {
        threeQuartersAreCut();
        fromAndUntilHoldTheDarkColumns();
        onlyPlacesBetweenFromAndUntil();
        touchIsTwoAtMost();
        oneColumnBesideIsDark();
    }

    private static void threeQuartersAreCut() {
        sentence("THE WIDTH that signs should have, P: three quarters (cut) of BASE less MIDDLE, and 2.");
        for (int high = 0; high < 40; high++) {
            Line line = spots(1, 40, 0, 39, 0, 39 - high);
            due("BASE less MIDDLE " + high + ": P", line.base(2), high - (high + 3) / 4 + 2);
        }
        due("0", spots(1, 1, 0, 0).base(2), 2);
        due("3 / 4", spots(1, 2, 0, 0, 0, 1).base(2), 2);
        due("117 / 4", spots(1, 40, 0, 0, 0, 39).base(2), 31);
    }

    private static void fromAndUntilHoldTheDarkColumns() {
        sentence("FROM is the first column with a dark spot, UNTIL the place behind the last one.");
        Line line = spots(60, 2, 30, 1);
        due("one column: FROM", line.base(3), 30);
        due("one column: UNTIL", line.base(4), 31);
        line.dark(0, 0);
        line.dark(59, 0);
        due("the outer columns: FROM", line.base(3), 0);
        due("the outer columns: UNTIL", line.base(4), 60);
        line.bright(0, 0);
        line.bright(59, 0);
        due("the outer columns bright again: FROM", line.base(3), 30);
        due("the outer columns bright again: UNTIL", line.base(4), 31);
    }

    private static void onlyPlacesBetweenFromAndUntil() {
        sentence("A place between FROM and UNTIL MAY BE CUT");
        // FROM and UNTIL have a touch of 0 and a dark column beside them.
        due("one column", line("..#..").base(5), 0);
        due("one column at the left edge", line("#....").base(5), 0);
        due("one column at the right edge", line("....#").base(5), 0);
        due("a line of one column", line("#").base(5), 0);
        due("two columns", line(".##.").base(5), 1);
        Line wide = line(".##.");
        due("two columns: cut(40)", wide.cut(40), 2);
        dueWay("two columns", wide, 0, 0, 1, 3);
        dueWay("two columns", wide, 1, 12, 1, 2, 3);
    }

    private static void touchIsTwoAtMost() {
        sentence("its touch is 2 at most");
        for (int touch = 0; touch <= 40; touch++) {
            Line line = spots(2, 40, 0, 0, 1, 1);
            for (int y = 40 - touch; y < 40; y++) {
                line.dark(0, y);
                line.dark(1, y);
            }
            due("touch " + touch + ": places", line.base(5), touch <= 2 ? 1 : 0);
            due("touch " + touch + ": ways", line.cut(40), touch <= 2 ? 2 : 1);
            due("touch " + touch + ": plain(2)", line.plain(2), touch <= 2 ? 1 : 0);
        }
        // "in how many rows the spots at x - 1 and at x are both dark": these never are.
        Line aslant = line("#.", ".#", "#.", ".#", "#.", ".#");
        due("three dark spots on either side, none beside another: places", aslant.base(5), 1);
    }

    private static void oneColumnBesideIsDark() {
        sentence("and one of the columns beside it has a dark spot");
        due("dark on both sides", line("##").base(5), 1);
        due("one empty column: dark on either side of it", line("#.#").base(5), 2);
        due("two empty columns: not between them", line("#..#").base(5), 2);
        due("58 empty columns", spots(60, 1, 0, 0, 59, 0).base(5), 2);
        Line line = line("#..#");
        due("two empty columns: cut(40)", line.cut(40), 3);
        dueWay("two empty columns", line, 0, 2, 0, 1, 4);
        dueWay("two empty columns", line, 1, 2, 0, 3, 4);
        dueWay("two empty columns", line, 2, 14, 0, 4);
    }

    // Terms: ways and what they cost

    private static void waysAndCosts() {
        someAreNoneToAll();
        aDarkSpotInEachSign();
        widthBelowAtAndAboveTheDueOne();
        emptyColumnsBetweenTheDarkOnesOnly();
        tornRowsLessOne();
        noTornRowCostsNothing();
        eachCutCostsTenForEachTouch();
    }

    private static void someAreNoneToAll() {
        sentence("A WAY is a row of places: FROM, some that may be cut, in their order, UNTIL");
        Line none = line("##", "##", "##");
        due("none may be cut: cut(40)", none.cut(40), 1);
        dueWay("none may be cut", none, 0, 1, 0, 2);
        Line all = line("###");
        due("none to all of two: cut(40)", all.cut(40), 4);
        dueWay("none of two", all, 0, 1, 0, 3);
        dueWay("all of two", all, 3, 23, 0, 1, 2, 3);
        Line one = line("#");
        due("one column: cut(40)", one.cut(40), 1);
        dueWay("one column", one, 0, 1, 0, 1);
    }

    private static void aDarkSpotInEachSign() {
        sentence("there must be a dark spot in it");
        Line line = line("#.#");
        due("#.#: both places may be cut", line.base(5), 2);
        due("#.#: not both at once", line.cut(40), 3);
        due("#.#: plain(3)", line.plain(3), 0);
        Line gaps = line("#...#..#");
        due("two gaps: places", gaps.base(5), 4);
        due("two gaps: ways", gaps.cut(40), 9);
        due("two gaps: plain(2)", gaps.plain(2), 4);
        due("two gaps: plain(3)", gaps.plain(3), 4);
        due("two gaps: plain(4)", gaps.plain(4), 0);
        due("two gaps: plain(5)", gaps.plain(5), 0);
    }

    private static void widthBelowAtAndAboveTheDueOne() {
        sentence("d times d, d being how much its width differs from P");
        String[] rows = {"#", "##", "###", "####", "#####"};
        int[] costs = {1, 0, 1, 4, 9};
        for (int i = 0; i < rows.length; i++) {
            Line line = line(rows[i]);
            due("width " + (i + 1) + ", P", line.base(2), 2);
            line.cut(1);
            dueWay("width " + (i + 1), line, 0, costs[i], 0, i + 1);
        }
        Line narrow = spots(1, 40, 0, 0, 0, 39);
        narrow.cut(1);
        dueWay("width 1 where P is 31", narrow, 0, 900, 0, 1);
        Line wide = new Line(60, 3);
        for (int y = 0; y < 3; y++) {
            darken(wide, y, 60);
        }
        due("60 columns that hang together: cut(40)", wide.cut(40), 1);
        dueWay("width 60 where P is 3", wide, 0, 57 * 57, 0, 60);
    }

    private static void emptyColumnsBetweenTheDarkOnesOnly() {
        sentence("(from its first column with a dark spot to its last one); 5 for each column without a dark spot "
            + "between these two");
        Line far = spots(60, 1, 0, 0, 59, 0);
        due("58 empty columns: cut(40)", far.cut(40), 3);
        // The empty columns at a sign's edge cost nothing, and do not widen it.
        dueWay("empty columns behind", far, 0, 2, 0, 1, 60);
        dueWay("empty columns in front", far, 1, 2, 0, 59, 60);
        dueWay("58 empty columns", far, 2, 58 * 58 + 58 * 5, 0, 60);
        Line one = line("#.#");
        one.cut(40);
        dueWay("one empty column", one, 2, 1 + 5, 0, 3);
        // No column is empty here, though a spot is bright in each.
        Line none = line("#.#", ".#.");
        none.cut(40);
        dueWay("no empty column", none, 2, 1, 0, 3);
    }

    /** Of two dark columns with a bright one between them; all of it is one sign, at a known place. */
    private static void dueTorn(int rows, int k, long cost) {
        Line line = new Line(3, 40);
        for (int y = 0; y < rows; y++) {
            line.dark(0, y);
            line.dark(2, y);
        }
        due(rows + " rows with a bright spot between: cut(40)", line.cut(40), 3);
        dueWay(rows + " rows with a bright spot between", line, k, cost, 0, 3);
    }

    private static void tornRowsLessOne() {
        sentence("a number of rows less 1, times 2: the rows in which, between its first and last dark spot, "
            + "there is a bright one");
        dueTorn(1, 2, 1 + 5);
        dueTorn(2, 2, 1 + 5 + 2);
        dueTorn(3, 2, 5 + 4);
        dueTorn(40, 0, 28 * 28 + 5 + 78);
        // A row counts once, however often it is torn.
        Line often = line("#.#.#.#", "#######", "#######", "#######");
        due("torn three times: cut(40)", often.cut(40), 1);
        dueWay("torn three times", often, 0, 9, 0, 7);
        Line twoOften = line("#.#.#.#", "#######", "#######", "#######", "#..#..#");
        due("two torn rows: cut(40)", twoOften.cut(40), 1);
        dueWay("two torn rows", twoOften, 0, 9 + 2, 0, 7);
        // What is bright before a row's first dark spot or behind its last one does not tear it.
        Line edges = line("#..", "###", "###", "###", "..#", ".#.");
        due("bright at the edges: cut(40)", edges.cut(40), 1);
        dueWay("bright at the edges", edges, 0, 0, 0, 3);
        // Each sign has its own first and last dark spot: cut between, none of the three rows is torn.
        Line halves = line("#.#", "#.#", "#.#");
        halves.cut(40);
        dueWay("rows torn in the whole alone", halves, 0, 4 + 4, 0, 1, 3);
        dueWay("rows torn in the whole alone", halves, 1, 4 + 4, 0, 2, 3);
        dueWay("rows torn in the whole alone", halves, 2, 5 + 4, 0, 3);
    }

    private static void noTornRowCostsNothing() {
        sentence("(0 without)");
        Line one = line("##");
        one.cut(1);
        dueWay("no torn row", one, 0, 0, 0, 2);
        Line cut = line("##.##");
        cut.cut(2);
        dueWay("no torn row in two signs", cut, 0, 0, 0, 2, 5);
        dueWay("no torn row in two signs", cut, 1, 0, 0, 3, 5);
        Line high = spots(2, 40, 0, 5, 1, 5);
        high.cut(1);
        dueWay("39 rows without a dark spot", high, 0, 0, 0, 2);
    }

    private static void eachCutCostsTenForEachTouch() {
        sentence("and 10 times the touch of each place that is cut (FROM and UNTIL are none)");
        Line zero = line("#.", ".#");
        zero.cut(40);
        dueWay("whole", zero, 0, 0, 0, 2);
        dueWay("touch 0", zero, 1, 1 + 1, 0, 1, 2);
        Line one = line("##");
        one.cut(40);
        dueWay("whole", one, 0, 0, 0, 2);
        dueWay("touch 1", one, 1, 1 + 1 + 10, 0, 1, 2);
        Line two = line("##", "##");
        two.cut(40);
        dueWay("whole", two, 0, 0, 0, 2);
        dueWay("touch 2", two, 1, 1 + 1 + 20, 0, 1, 2);
        // Three columns and a gap: the touch of the places that are not cut costs nothing.
        Line mixed = line("###.", "##..");
        mixed.cut(40);
        dueWay("whole", mixed, 0, 1, 0, 3);
        dueWay("touch 1 of the second place", mixed, 1, 0 + 1 + 10, 0, 2, 3);
        dueWay("touch 2 of the first place", mixed, 2, 1 + 0 + 20, 0, 1, 3);
        dueWay("touch of both", mixed, 3, 1 + 1 + 1 + 30, 0, 1, 2, 3);
    }

    // Terms: the order of ways, and what is thrown

    private static void orderAndThrows() {
        cheaperWaysComeFirst();
        leastRowOfPlacesOfTheSameCost();
        aThrowChangesNothing();
    }

    private static void cheaperWaysComeFirst() {
        sentence("The k-th WAY (0 the first): by costs");
        Line line = line("######");
        due("######: cut(40)", line.cut(40), 32);
        // By places alone 0, 1, 6 would be before 0, 3, 6; by signs alone 0, 6 would be the first.
        dueWay("######", line, 0, 12, 0, 3, 6);
        dueWay("######", line, 3, 16, 0, 6);
        for (int k = 1; k < 32; k++) {
            due("######: cost(" + k + ") is no less than the one before", line.cost(k) >= line.cost(k - 1) ? 1 : 0, 1);
        }
    }

    private static void leastRowOfPlacesOfTheSameCost() {
        sentence("of several with the same the one whose row of places is least "
            + "(place by place, from the first one on)");
        Line line = line("######");
        line.cut(40);
        dueWay("######", line, 1, 14, 0, 2, 6);
        dueWay("######", line, 2, 14, 0, 4, 6);
        // Neither fewer signs nor more of them come first.
        dueWay("######", line, 4, 20, 0, 1, 6);
        dueWay("######", line, 5, 20, 0, 2, 4, 6);
        dueWay("######", line, 6, 20, 0, 5, 6);
        // With a k that ends among equals, the least of them are found.
        due("######: cut(2)", line.cut(2), 2);
        dueWay("######, two found", line, 1, 14, 0, 2, 6);
        due("######: cut(6)", line.cut(6), 6);
        dueWay("######, six found", line, 5, 20, 0, 2, 4, 6);
        Line later = line("#.#.#");
        due("#.#.#: cut(1)", later.cut(1), 1);
        dueWay("#.#.#, one found", later, 0, 3, 0, 1, 3, 5);
        due("#.#.#: cut(3)", later.cut(3), 3);
        dueWay("#.#.#, three found", later, 1, 3, 0, 1, 4, 5);
        dueWay("#.#.#, three found", later, 2, 3, 0, 2, 3, 5);
    }

    private static void aThrowChangesNothing() {
        sentence("A call that throws changes nothing.");
        int[][] outside = {{-1, 0}, {-1, 1}, {3, 0}, {3, 1}, {64, 1}, {65, 1}, {0, -1}, {2, -1}, {1, 2}, {1, 64},
            {1, 65}, {LEAST, 1}, {MOST, 1}, {1, LEAST}, {1, MOST}, {LEAST, LEAST}, {MOST, MOST}};
        for (int[] spot : outside) {
            dueNothingChanged(spot[0], spot[1], true);
            dueNothingChanged(spot[0], spot[1], false);
        }
    }

    private static void dueNothingChanged(int x, int y, boolean dark) {
        String call = "column(" + x + ", " + y + ", " + dark + ")";
        Line found = line("#.#", ".#.");
        found.cut(2);
        found.bright(1, 1);
        List<Long> before = answers(found);
        due(call + " thrown", found.thrown(x, y, dark), 1);
        dueSame("what was found, after " + call, answers(found), before);
        Line fresh = new Line(3, 2);
        due(call + " thrown", fresh.thrown(x, y, dark), 1);
        due("new, after " + call + ": cut(40)", fresh.cut(40), 0);
        dueSame("new, after " + call, answers(fresh), answers(new Line(3, 2)));
        // What had been changed unseen would be seen beside a dark spot.
        fresh.dark(1, 0);
        Line untouched = spots(3, 2, 1, 0);
        due("a dark spot, after " + call + ": cut(40)", fresh.cut(40), untouched.cut(40));
        dueSame("a dark spot, after " + call, answers(fresh), answers(untouched));
    }

    // Promises 1 and 2

    private static void newObjectAndColumn() {
        widthAndHeightAreBroughtIntoTheirBounds();
        spotsOutsideThrow();
        darkOrBright();
    }

    private static void dueSize(int width, int height, int dueWidth, int dueHeight) {
        String size = "new SignCutter(" + width + ", " + height + "): ";
        Line line = new Line(width, height);
        due(size + "last spot thrown", line.thrown(dueWidth - 1, dueHeight - 1, true), 0);
        due(size + "first spot thrown", line.thrown(0, 0, true), 0);
        due(size + "x = W thrown", line.thrown(dueWidth, 0, true), 1);
        due(size + "y = H thrown", line.thrown(0, dueHeight, true), 1);
        due(size + "UNTIL", line.base(4), dueWidth);
        due(size + "BASE", line.base(1), dueHeight - 1);
    }

    private static void widthAndHeightAreBroughtIntoTheirBounds() {
        sentence("A line with W brought to 1 .. 60 and H to 1 .. 40.");
        int[] asked = {LEAST, LEAST + 1, -60, -40, -1, 0, 1, 2, 39, 40, 41, 59, 60, 61, 64, 1000, MOST - 1, MOST};
        for (int width : asked) {
            for (int height : asked) {
                int dueWidth = width < 1 ? 1 : width > 60 ? 60 : width;
                int dueHeight = height < 1 ? 1 : height > 40 ? 40 : height;
                dueSize(width, height, dueWidth, dueHeight);
            }
        }
    }

    private static void spotsOutsideThrow() {
        sentence("ArrayIndexOutOfBoundsException: there is no such spot.");
        int[] asked = {LEAST, -65, -64, -61, -60, -41, -40, -1, 0, 1, 2, 3, 39, 40, 41, 59, 60, 61, 64, 65, 128, MOST};
        int[][] sizes = {{1, 1}, {3, 2}, {2, 3}, {60, 1}, {1, 40}, {60, 40}};
        for (int[] size : sizes) {
            for (int x : asked) {
                Line line = new Line(size[0], size[1]);
                for (int y : asked) {
                    int want = x >= 0 && x < size[0] && y >= 0 && y < size[1] ? 0 : 1;
                    String call = size[0] + " times " + size[1] + ", column(" + x + ", " + y + ", ";
                    due(call + "true) thrown", line.thrown(x, y, true), want);
                    due(call + "false) thrown", line.thrown(x, y, false), want);
                }
            }
        }
    }

    private static void darkOrBright() {
        sentence("A spot is dark, or bright.");
        Line line = new Line(2, 1);
        line.bright(0, 0);
        due("bright made bright: FROM", line.base(3), NONE);
        line.dark(0, 0);
        line.dark(0, 0);
        due("dark made dark: FROM", line.base(3), 0);
        due("dark made dark: cut(40)", line.cut(40), 1);
        line.bright(0, 0);
        due("once dark made bright: FROM", line.base(3), NONE);
        line.dark(1, 0);
        line.bright(0, 0);
        due("another made bright: FROM", line.base(3), 1);
        // The spots beside it, above it and below it stay as they are.
        Line beside = line("###", "###", "###");
        beside.bright(1, 0);
        due("one of nine made bright: MIDDLE", beside.base(0), 0);
        due("one of nine made bright: cut(40)", beside.cut(40), 4);
        dueWay("one of nine made bright", beside, 0, 0, 0, 3);
        dueWay("one of nine made bright", beside, 1, 4 + 1 + 20, 0, 1, 3);
        dueWay("one of nine made bright", beside, 2, 1 + 4 + 20, 0, 2, 3);
        dueWay("one of nine made bright", beside, 3, 4 + 4 + 4 + 40, 0, 1, 2, 3);
    }

    // Promises 3 to 6

    private static void cutAndItsAnswers() {
        allWaysIfThereAreLess();
        noWayWithoutADarkSpot();
        theOthersTellThemUntilItIsCutAgain();
        wrongNumbersOfWaysAreRefused();
        noSuchPlace();
        noSuchCost();
        noSuchSigns();
    }

    private static void allWaysIfThereAreLess() {
        sentence("The first k ways are found (all, if there are less): how many");
        Line three = line("#.#");
        for (int k = 1; k <= 40; k++) {
            int found = Math.min(k, 3);
            due("three ways: cut(" + k + ")", three.cut(k), found);
            due("three ways: the last one's signs", three.signs(found - 1) > 0 ? 1 : 0, 1);
            dueNoWay("three ways, cut(" + k + ")", three, found);
        }
        Line many = line("#######");
        for (int k = 1; k <= 40; k++) {
            due("64 ways: cut(" + k + ")", many.cut(k), k);
            due("64 ways: the last one's signs", many.signs(k - 1) > 0 ? 1 : 0, 1);
            dueNoWay("64 ways, cut(" + k + ")", many, k);
        }
        // A touch makes twice as many ways, a gap three times: no number of ways is nearer to 40.
        due("36 ways: cut(40)", line("#.#.###").cut(40), 36);
        due("48 ways: cut(40)", line("#.#####").cut(40), 40);
    }

    private static void noWayWithoutADarkSpot() {
        sentence("none without a dark spot");
        Line line = new Line(60, 40);
        due("new: cut(1)", line.cut(1), 0);
        due("new: cut(40)", line.cut(40), 0);
        dueNoWay("new", line, 0);
        line.dark(0, 0);
        due("a dark spot: cut(40)", line.cut(40), 1);
        line.bright(0, 0);
        due("bright again: cut(1)", line.cut(1), 0);
        dueNoWay("bright again", line, 0);
    }

    private static void theOthersTellThemUntilItIsCutAgain() {
        sentence("the others tell them until it is cut again");
        Line line = line(".#.#.");
        line.cut(40);
        line.dark(0, 0);
        line.bright(1, 0);
        line.dark(4, 0);
        for (int which = 0; which <= 5; which++) {
            line.base(which);
        }
        line.slant();
        line.plain(2);
        dueWay("the line has changed", line, 0, 2, 1, 2, 4);
        dueWay("the line has changed", line, 1, 2, 1, 3, 4);
        dueWay("the line has changed", line, 2, 6, 1, 4);
        line.bright(0, 0);
        line.bright(3, 0);
        line.bright(4, 0);
        due("all bright: FROM", line.base(3), NONE);
        dueWay("all bright", line, 0, 2, 1, 2, 4);
        line.dark(2, 0);
        due("cut again", line.cut(1), 1);
        dueWay("cut again", line, 0, 1, 2, 3);
        dueNoWay("cut again", line, 1);
        dueNoWay("cut again", line, 2);
        due("cut with less, then with more", line.cut(40), 1);
        dueNoWay("cut with more", line, 1);
    }

    private static void wrongNumbersOfWaysAreRefused() {
        sentence("NONE when k is not 1 .. 40 (nothing changes).");
        int[] wrongs = {0, 41, -1, 42, -40, 64, 256, LEAST, LEAST + 1, MOST};
        for (int k : wrongs) {
            Line line = line("#.#");
            line.cut(2);
            line.dark(1, 0);
            List<Long> before = answers(line);
            due("found before: cut(" + k + ")", line.cut(k), NONE);
            dueSame("found before, after cut(" + k + ")", answers(line), before);
            Line fresh = new Line(3, 1);
            due("without a dark spot: cut(" + k + ")", fresh.cut(k), NONE);
            fresh.dark(0, 0);
            due("never cut: cut(" + k + ")", fresh.cut(k), NONE);
            dueNoWay("never cut, after cut(" + k + ")", fresh, 0);
            fresh.cut(1);
            fresh.bright(0, 0);
            due("bright now: cut(" + k + ")", fresh.cut(k), NONE);
            dueWay("bright now, after cut(" + k + ")", fresh, 0, 1, 0, 1);
        }
        due("1 is the least", line("#.#").cut(1), 1);
        due("40 is the most", line("#######").cut(40), 40);
    }

    private static final int[] NO_WAYS = {LEAST, -41, -40, -3, -2, -1, 3, 4, 39, 40, 41, 64, 2440, MOST - 40, MOST};

    private static void noSuchPlace() {
        sentence("Place i (0 the first) of the k-th way that was found; NONE when there is none such.");
        Line line = line(".#.#");
        due("never cut", line.way(0, 0), NONE);
        line.cut(40);
        int[] wrongs = {LEAST, -64, -1, 3, 4, 59, 60, 61, 63, 64, MOST};
        for (int i : wrongs) {
            due("way(0, " + i + ")", line.way(0, i), NONE);
            due("way(2, " + i + ")", line.way(2, i), NONE);
        }
        for (int k : NO_WAYS) {
            due("way(" + k + ", 0)", line.way(k, 0), NONE);
            due("way(" + k + ", 1)", line.way(k, 1), NONE);
        }
        due("the first place of the first way", line.way(0, 0), 1);
        due("the last place of a way of two signs", line.way(1, 2), 4);
        due("the last place of a way of one sign", line.way(2, 1), 4);
        due("behind the last place of a way of one sign", line.way(2, 2), NONE);
        Line full = longRow();
        int last = full.signs(0);
        due("60 columns: last place", full.way(0, last), 60);
        due("60 columns: behind the last place", full.way(0, last + 1), NONE);
        due("60 columns: way(39, 0)", full.way(39, 0), 0);
        due("60 columns: way(40, 0)", full.way(40, 0), NONE);
    }

    private static void noSuchCost() {
        sentence("Its cost; NONE when there is none such.");
        Line line = line(".#.#");
        due("never cut", line.cost(0), NONE);
        line.cut(40);
        due("the first", line.cost(0), 2);
        due("the last", line.cost(2), 6);
        for (int k : NO_WAYS) {
            due("cost(" + k + ")", line.cost(k), NONE);
        }
        Line full = longRow();
        due("60 columns: cost(39) is there", full.cost(39) > 0 ? 1 : 0, 1);
        due("60 columns: cost(40)", full.cost(40), NONE);
    }

    private static void noSuchSigns() {
        sentence("How many signs it has; NONE when there is none such.");
        Line line = line(".#.#");
        due("never cut", line.signs(0), NONE);
        line.cut(40);
        due("the first", line.signs(0), 2);
        due("the last", line.signs(2), 1);
        for (int k : NO_WAYS) {
            due("signs(" + k + ")", line.signs(k), NONE);
        }
        Line full = longRow();
        due("60 columns: signs(39) is there", full.signs(39) > 0 ? 1 : 0, 1);
        due("60 columns: signs(40)", full.signs(40), NONE);
    }

    // Promises 7 to 9

    private static void baseSlantAndPlain() {
        noBaseWithoutADarkSpot();
        noBaseForOthers();
        noSlantWithoutADarkSpot();
        waysOfSoManySigns();
        aBillionIfThereAreMore();
    }

    private static void noBaseWithoutADarkSpot() {
        sentence("NONE without a dark spot");
        Line line = new Line(60, 40);
        for (int which = -1; which <= 6; which++) {
            due("new: base(" + which + ")", line.base(which), NONE);
        }
        line.dark(4, 3);
        int[] want = {3, 3, 2, 4, 5, 0};
        for (int which = 0; which <= 5; which++) {
            due("a dark spot: base(" + which + ")", line.base(which), want[which]);
        }
        line.cut(1);
        line.bright(4, 3);
        for (int which = -1; which <= 6; which++) {
            due("cut, and bright again: base(" + which + ")", line.base(which), NONE);
        }
    }

    private static void noBaseForOthers() {
        sentence("and for others");
        Line line = line("#.#", "...", "..#");
        int[] want = {0, 2, 3, 0, 3, 2};
        for (int which = 0; which <= 5; which++) {
            due("base(" + which + ")", line.base(which), want[which]);
        }
        int[] wrongs = {LEAST, LEAST + 5, -6, -5, -2, -1, 6, 7, 8, 64, 256, MOST - 1, MOST};
        for (int which : wrongs) {
            due("base(" + which + ")", line.base(which), NONE);
        }
    }

    private static void noSlantWithoutADarkSpot() {
        sentence("THE SLANT (0 without a dark spot).");
        Line line = new Line(2, 2);
        due("new", line.slant(), 0);
        line.dark(1, 0);
        line.dark(0, 1);
        due("two dark spots", line.slant(), -1);
        line.bright(1, 0);
        line.bright(0, 1);
        due("bright again", line.slant(), 0);
        due("new, the smallest", new Line(1, 1).slant(), 0);
        due("new, the largest", new Line(60, 40).slant(), 0);
    }

    private static void waysOfSoManySigns() {
        sentence("How many ways there are that have k signs");
        Line line = line("#.#");
        int[] wrongs = {LEAST, LEAST + 1, -1, 0, 3, 4, 60, 61, 62, 64, 1000, MOST - 1, MOST};
        for (int k : wrongs) {
            due("plain(" + k + ")", line.plain(k), 0);
            due("without a dark spot: plain(" + k + ")", new Line(3, 1).plain(k), 0);
        }
        due("plain(1)", line.plain(1), 1);
        due("plain(2)", line.plain(2), 2);
        due("without a dark spot: plain(1)", new Line(3, 1).plain(1), 0);
        due("a line of one column: plain(1)", line("#").plain(1), 1);
        due("a line of one column: plain(2)", line("#").plain(2), 0);
        Line full = longRow();
        due("60 columns: plain(0)", full.plain(0), 0);
        due("60 columns: plain(1)", full.plain(1), 1);
        due("60 columns: plain(59)", full.plain(59), 59);
        due("60 columns: plain(60)", full.plain(60), 1);
        due("60 columns: plain(61)", full.plain(61), 0);
        // Of the line as it is, whatever was found before.
        line.cut(1);
        line.dark(1, 0);
        due("changed behind a cut: plain(3)", line.plain(3), 1);
        line.bright(2, 0);
        due("made shorter: plain(2)", line.plain(2), 1);
        due("made shorter: plain(3)", line.plain(3), 0);
    }

    /** Gaps, which may be cut on either side, and then columns that stand side by side. */
    private static Line gapsAndTouches(int gaps, int touches) {
        Line line = new Line(1 + 2 * gaps + touches, 1);
        for (int gap = 0; gap < gaps; gap++) {
            line.dark(2 * gap, 0);
        }
        for (int x = 2 * gaps; x <= 2 * gaps + touches; x++) {
            line.dark(x, 0);
        }
        return line;
    }

    private static void aBillionIfThereAreMore() {
        sentence("10^9 if there are more.");
        // These are the nearest that gaps and touches come to 10^9.
        due("999,979,050 ways", gapsAndTouches(2, 50).plain(9), 999979050);
        due("999,972,096 ways", gapsAndTouches(18, 6).plain(12), 999972096);
        due("1,000,376,696 ways", gapsAndTouches(2, 37).plain(11), BILLION);
        due("1,000,420,992 ways", gapsAndTouches(10, 38).plain(44), BILLION);
        due("2^29 ways", gapsAndTouches(29, 0).plain(30), 536870912);
        Line full = longRow();
        due("341,149,446 ways", full.plain(8), 341149446);
        due("2,217,471,399 ways", full.plain(9), BILLION);
        // More than an int, and more than a long can hold where numbers wrap around.
        for (int k = 9; k <= 52; k++) {
            due("60 columns: plain(" + k + ")", full.plain(k), BILLION);
        }
        due("341,149,446 ways again", full.plain(53), 341149446);
    }
}
