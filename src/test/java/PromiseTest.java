/** Each promise by hand: ordinary inputs, the edges that the document names, and wrong inputs. */
public final class PromiseTest {
    private static final int NONE = SignCutter.NONE;
    private static int wrong = 0;

    public static void main(String[] args) {
        sizeIsBroughtIntoItsBounds();
        aNewLineIsBright();
        spotsTurnDarkAndBright();
        spotsOutsideThrowAndChangeNothing();
        cutFindsAtMostK();
        cutRefusesWrongK();
        foundWaysStayUntilCutAgain();
        waysOfTheSameCostGoByTheirPlaces();
        wrongWaysAndPlacesAreNone();
        widthIsMeasuredBetweenDarkColumns();
        tornRowsCostFromTheSecondOn();
        touchCostsTenEach();
        signsNeedADarkSpot();
        strongRowsHaveHalfOfTheMost();
        dueWidthIsCut();
        placesThatMayBeCut();
        slantIsNearestToZero();
        slantRoundsDown();
        plainCountsAndStopsAtABillion();
        plainLooksAtTheLineOfNow();
        System.out.println(wrong == 0 ? "all promises hold" : wrong + " answers are not as due");
        if (wrong != 0) {
            System.exit(1);
        }
    }

    private static void due(String what, long got, long want) {
        if (got != want) {
            wrong++;
            System.out.println(what + " answered " + got + ", due is " + want);
        }
    }

    /** '#' is a dark spot, anything else a bright one. */
    private static SignCutter line(String... rows) {
        SignCutter line = new SignCutter(rows[0].length(), rows.length);
        for (int y = 0; y < rows.length; y++) {
            for (int x = 0; x < rows[y].length(); x++) {
                if (rows[y].charAt(x) == '#') {
                    line.column(x, y, true);
                }
            }
        }
        return line;
    }

    private static boolean refuses(SignCutter line, int x, int y, boolean dark) {
        try {
            line.column(x, y, dark);
            return false;
        } catch (ArrayIndexOutOfBoundsException e) {
            // The machine's own text tells the index, and is left out where the machine throws often:
            // then nothing looked at the index before its use.
            boolean byMachine = e.getMessage() == null || e.getMessage().startsWith("Index ");
            due("column(" + x + ", " + y + ", ..) thrown by the machine", byMachine ? 1 : 0, 0);
            return true;
        }
    }

    private static void dueWay(String what, SignCutter line, int k, long cost, int... places) {
        due(what + ": cost(" + k + ")", line.cost(k), cost);
        due(what + ": signs(" + k + ")", line.signs(k), places.length - 1);
        for (int i = 0; i < places.length; i++) {
            due(what + ": way(" + k + ", " + i + ")", line.way(k, i), places[i]);
        }
        due(what + ": way(" + k + ", " + places.length + ")", line.way(k, places.length), NONE);
    }

    private static void dueSize(int width, int height, int dueWidth, int dueHeight) {
        String what = "new SignCutter(" + width + ", " + height + "): ";
        SignCutter line = new SignCutter(width, height);
        due(what + "last spot refused", refuses(line, dueWidth - 1, dueHeight - 1, true) ? 1 : 0, 0);
        due(what + "x = W refused", refuses(line, dueWidth, dueHeight - 1, true) ? 1 : 0, 1);
        due(what + "y = H refused", refuses(line, dueWidth - 1, dueHeight, true) ? 1 : 0, 1);
        due(what + "UNTIL", line.base(4), dueWidth);
        due(what + "BASE", line.base(1), dueHeight - 1);
    }

    private static void sizeIsBroughtIntoItsBounds() {
        dueSize(1, 1, 1, 1);
        dueSize(0, 0, 1, 1);
        dueSize(-1, -1, 1, 1);
        dueSize(Integer.MIN_VALUE, Integer.MAX_VALUE, 1, 40);
        dueSize(Integer.MAX_VALUE, Integer.MIN_VALUE, 60, 1);
        dueSize(60, 40, 60, 40);
        dueSize(61, 41, 60, 40);
        dueSize(59, 39, 59, 39);
        dueSize(7, 3, 7, 3);
    }

    private static void aNewLineIsBright() {
        SignCutter line = new SignCutter(60, 40);
        for (int which = -1; which <= 6; which++) {
            due("bright: base(" + which + ")", line.base(which), NONE);
        }
        due("bright: slant()", line.slant(), 0);
        for (int k = -1; k <= 61; k++) {
            due("bright: plain(" + k + ")", line.plain(k), 0);
        }
        due("before a cut: way(0, 0)", line.way(0, 0), NONE);
        due("before a cut: cost(0)", line.cost(0), NONE);
        due("before a cut: signs(0)", line.signs(0), NONE);
        due("bright: cut(1)", line.cut(1), 0);
        due("bright: cut(40)", line.cut(40), 0);
        due("bright: way(0, 0)", line.way(0, 0), NONE);
    }

    private static void spotsTurnDarkAndBright() {
        SignCutter line = new SignCutter(60, 40);
        line.column(59, 39, true);
        line.column(59, 39, true);
        line.column(3, 0, true);
        due("two spots: FROM", line.base(3), 3);
        due("two spots: UNTIL", line.base(4), 60);
        due("two spots: MIDDLE", line.base(0), 0);
        due("two spots: BASE", line.base(1), 39);
        line.column(59, 39, false);
        due("one spot: UNTIL", line.base(4), 4);
        due("one spot: BASE", line.base(1), 0);
        line.column(3, 1, false);
        due("a bright spot made bright: FROM", line.base(3), 3);
        line.column(3, 0, false);
        due("all bright again: FROM", line.base(3), NONE);
        due("all bright again: cut(1)", line.cut(1), 0);
    }

    private static void spotsOutsideThrowAndChangeNothing() {
        SignCutter line = line("#.#");
        line.cut(40);
        int[][] outside = {{-1, 0}, {3, 0}, {0, -1}, {0, 1}, {-1, -1}, {3, 1}, {64, 0}, {0, 64},
            {Integer.MIN_VALUE, 0}, {Integer.MAX_VALUE, 0}, {0, Integer.MIN_VALUE}, {0, Integer.MAX_VALUE}};
        for (int[] spot : outside) {
            String call = "column(" + spot[0] + ", " + spot[1] + ", ..)";
            due(call + " dark throws", refuses(line, spot[0], spot[1], true) ? 1 : 0, 1);
            due(call + " bright throws", refuses(line, spot[0], spot[1], false) ? 1 : 0, 1);
        }
        due("after throws: FROM", line.base(3), 0);
        due("after throws: UNTIL", line.base(4), 3);
        due("after throws: BASE", line.base(1), 0);
        due("after throws: ways kept", line.signs(2), 1);
        due("after throws: ways kept, no more", line.signs(3), NONE);
        due("after throws: cut(40)", line.cut(40), 3);
        int thrown = 0;
        try {
            line.column(3, 0, true);
        } catch (RuntimeException e) {
            thrown = e.getClass() == ArrayIndexOutOfBoundsException.class ? 1 : 2;
        }
        due("the very class that is thrown", thrown, 1);
    }

    private static void cutFindsAtMostK() {
        // P = 2; places 1 and 2 may be cut, though not both: column 1 is empty.
        SignCutter line = line("#.#");
        due("#.#: cut(1)", line.cut(1), 1);
        dueWay("#.# first", line, 0, 2, 0, 1, 3);
        due("#.#: cost(1) after cut(1)", line.cost(1), NONE);
        due("#.#: cut(2)", line.cut(2), 2);
        dueWay("#.# second", line, 1, 2, 0, 2, 3);
        due("#.#: cost(2) after cut(2)", line.cost(2), NONE);
        due("#.#: cut(3)", line.cut(3), 3);
        dueWay("#.# third", line, 2, 6, 0, 3);
        due("#.#: cut(4)", line.cut(4), 3);
        due("#.#: cut(40)", line.cut(40), 3);
        due("#.#: cost(3)", line.cost(3), NONE);
        SignCutter full = line("############################################################");
        due("60 dark: cut(39)", full.cut(39), 39);
        due("60 dark: cut(40)", full.cut(40), 40);
        due("60 dark: cost(40)", full.cost(40), NONE);
    }

    private static void cutRefusesWrongK() {
        SignCutter line = line("#.#");
        line.cut(2);
        line.column(1, 0, true);
        int[] wrongs = {0, 41, -1, 42, 64, Integer.MIN_VALUE, Integer.MAX_VALUE};
        for (int k : wrongs) {
            due("cut(" + k + ")", line.cut(k), NONE);
            dueWay("after cut(" + k + ")", line, 0, 2, 0, 1, 3);
            dueWay("after cut(" + k + ")", line, 1, 2, 0, 2, 3);
            due("after cut(" + k + "): signs(2)", line.signs(2), NONE);
        }
    }

    private static void foundWaysStayUntilCutAgain() {
        SignCutter line = line(".#.#.");
        due(".#.#.: cut(40)", line.cut(40), 3);
        line.column(0, 0, true);
        line.column(1, 0, false);
        line.column(4, 0, true);
        line.slant();
        line.plain(2);
        for (int which = 0; which <= 5; which++) {
            line.base(which);
        }
        dueWay("line changed", line, 0, 2, 1, 2, 4);
        dueWay("line changed", line, 1, 2, 1, 3, 4);
        dueWay("line changed", line, 2, 6, 1, 4);
        line.column(0, 0, false);
        line.column(3, 0, false);
        line.column(4, 0, false);
        due("bright now: base(3)", line.base(3), NONE);
        dueWay("bright now", line, 0, 2, 1, 2, 4);
        due("bright now: cut(7)", line.cut(7), 0);
        due("cut again: way(0, 0)", line.way(0, 0), NONE);
        due("cut again: cost(0)", line.cost(0), NONE);
        due("cut again: signs(0)", line.signs(0), NONE);
        line.column(4, 0, true);
        due("cut once more", line.cut(7), 1);
        dueWay("cut once more", line, 0, 1, 4, 5);
    }

    private static void waysOfTheSameCostGoByTheirPlaces() {
        // P = 2; cut at 1 or 2 the widths are 1 and 2: 1 and the touch, 10; whole it is 1.
        SignCutter line = line("###");
        due("###: cut(40)", line.cut(40), 4);
        dueWay("###", line, 0, 1, 0, 3);
        dueWay("###", line, 1, 11, 0, 1, 3);
        dueWay("###", line, 2, 11, 0, 2, 3);
        dueWay("###", line, 3, 23, 0, 1, 2, 3);
        // Two gaps, each of which may be cut on either side.
        SignCutter dots = line("#.#.#");
        due("#.#.#: cut(4)", dots.cut(4), 4);
        dueWay("#.#.#", dots, 0, 3, 0, 1, 3, 5);
        dueWay("#.#.#", dots, 1, 3, 0, 1, 4, 5);
        dueWay("#.#.#", dots, 2, 3, 0, 2, 3, 5);
        dueWay("#.#.#", dots, 3, 3, 0, 2, 4, 5);
    }

    private static void wrongWaysAndPlacesAreNone() {
        SignCutter line = line("#.#");
        line.cut(40);
        int[] wrongs = {-1, 3, 40, 2440, Integer.MIN_VALUE, Integer.MAX_VALUE};
        for (int k : wrongs) {
            due("way(" + k + ", 0)", line.way(k, 0), NONE);
            due("cost(" + k + ")", line.cost(k), NONE);
            due("signs(" + k + ")", line.signs(k), NONE);
        }
        int[] wrongPlaces = {-1, 3, 4, 61, 64, Integer.MIN_VALUE, Integer.MAX_VALUE};
        for (int i : wrongPlaces) {
            due("way(0, " + i + ")", line.way(0, i), NONE);
        }
    }

    private static void widthIsMeasuredBetweenDarkColumns() {
        // Places 1 and 3 may be cut; 2 may not, as both columns beside it are empty.
        SignCutter line = line("#..#");
        due("#..#: cut(40)", line.cut(40), 3);
        dueWay("#..#", line, 0, 2, 0, 1, 4);
        dueWay("#..#", line, 1, 2, 0, 3, 4);
        dueWay("#..#", line, 2, 4 + 10, 0, 4);
    }

    private static void tornRowsCostFromTheSecondOn() {
        // P = 3, as is the width; row 0 fills each column, so that none is empty.
        SignCutter one = line("###...", "......", "#.#...");
        due("one torn row, P", one.base(2), 3);
        dueCostOfWhole("one torn row", one, 0);
        SignCutter two = line("###", "#.#", "#.#");
        dueCostOfWhole("two torn rows", two, 2);
        SignCutter three = line("###", "#.#", "#.#", "#.#");
        dueCostOfWhole("three torn rows", three, 1 + 4);
        SignCutter none = line("###", "##.", ".##");
        dueCostOfWhole("no torn row", none, 0);
        // Torn twice, a row counts once; P = 2, width 5, the second and fourth column empty.
        SignCutter twice = line("#.#.#");
        dueCostOfWhole("a row torn twice", twice, 9 + 10);
        // Rows 0 and 2 are torn in the whole, in neither half of it.
        SignCutter halves = line("#..#", ".##.", "#..#");
        due("halves: P", halves.base(2), 3);
        due("halves: cut(40)", halves.cut(40), 8);
        dueCostOfWhole("halves", halves, 1 + 2);
    }

    private static void dueCostOfWhole(String what, SignCutter line, long want) {
        int ways = line.cut(40);
        for (int k = 0; k < ways; k++) {
            if (line.signs(k) == 1) {
                due(what + ": cost of the one sign", line.cost(k), want);
                return;
            }
        }
        due(what + ": ways of one sign", 0, 1);
    }

    private static void touchCostsTenEach() {
        // P = 2, each sign alone 1.
        SignCutter two = line("##", "##");
        due("touch 2: cut(40)", two.cut(40), 2);
        dueWay("touch 2", two, 0, 0, 0, 2);
        dueWay("touch 2", two, 1, 1 + 1 + 20, 0, 1, 2);
        SignCutter three = line("##", "##", "##");
        due("touch 3: cut(40)", three.cut(40), 1);
        SignCutter aslant = line("#.", ".#");
        due("touch 0: cut(40)", aslant.cut(40), 2);
        dueWay("touch 0", aslant, 1, 2, 0, 1, 2);
    }

    private static void signsNeedADarkSpot() {
        SignCutter line = line("#.#");
        due("#.#: plain(3)", line.plain(3), 0);
        SignCutter wide = line("#...#");
        due("#...#: base(5)", wide.base(5), 2);
        due("#...#: plain(1)", wide.plain(1), 1);
        due("#...#: plain(2)", wide.plain(2), 2);
        due("#...#: plain(3)", wide.plain(3), 0);
        due("#...#: cut(40)", wide.cut(40), 3);
    }

    private static void dueBase(String what, SignCutter line, int... want) {
        for (int which = 0; which < want.length; which++) {
            due(what + ": base(" + which + ")", line.base(which), want[which]);
        }
        int[] wrongs = {-1, 6, 7, Integer.MIN_VALUE, Integer.MAX_VALUE};
        for (int which : wrongs) {
            due(what + ": base(" + which + ")", line.base(which), NONE);
        }
    }

    private static void strongRowsHaveHalfOfTheMost() {
        dueBase("half of 4 is strong, less is not",
            line("#.....", "##....", "####..", "......", ".##...", ".#...."), 1, 4, 4, 0, 4, 3);
        dueBase("half of 5 is 2 and a half",
            line("##....", "###...", "#####.", "##....", "..###.", "##...."), 1, 4, 4, 0, 5, 3);
        dueBase("the most alone", line("......", "......", ".#####"), 2, 2, 2, 1, 6, 4);
        dueBase("one spot is half of two", line("#.", "..", "##"), 0, 2, 3, 0, 2, 1);
    }

    private static void dueWidthIsCut() {
        int[] due = {2, 2, 3, 4, 5, 5, 6, 7, 8};
        for (int last = 0; last < due.length; last++) {
            SignCutter line = new SignCutter(1, 40);
            line.column(0, 30, true);
            line.column(0, 30 - last, true);
            due("P for BASE less MIDDLE = " + last, line.base(2), due[last]);
        }
        SignCutter highest = new SignCutter(1, 40);
        highest.column(0, 0, true);
        highest.column(0, 39, true);
        due("P of the highest line", highest.base(2), 31);
    }

    private static void placesThatMayBeCut() {
        SignCutter line = new SignCutter(60, 40);
        line.column(1, 0, true);
        due("one column: FROM", line.base(3), 1);
        due("one column: UNTIL", line.base(4), 2);
        due("one column: places", line.base(5), 0);
        line.column(58, 0, true);
        due("two columns far off: places", line.base(5), 2);
        for (int y = 0; y < 3; y++) {
            line.column(30, y, true);
            line.column(31, y, true);
            // Place 30 and 32 stay; 31 goes with its third touch.
            due("touch " + (y + 1) + ": places", line.base(5), y < 2 ? 5 : 4);
        }
        line.column(30, 1, false);
        due("touch 2 again: places", line.base(5), 5);
    }

    private static void slantIsNearestToZero() {
        due("one spot: slant()", line("...#", "...."  ).slant(), 0);
        due("upright: slant()", line(".#.", ".#.", ".#.", ".#.", ".#.", ".#.", ".#.", ".#.", ".#.").slant(), 0);
        // Two rows higher, -1 and 4 are the shears nearest to 0 that bring a spot one column aside.
        SignCutter leaning = new SignCutter(3, 3);
        leaning.column(0, 2, true);
        leaning.column(1, 0, true);
        due("leaning forward by 1 in 2 rows: slant()", leaning.slant(), -1);
        SignCutter back = new SignCutter(3, 3);
        back.column(1, 2, true);
        back.column(0, 0, true);
        due("leaning back by 1 in 2 rows: slant()", back.slant(), 4);
        SignCutter both = new SignCutter(9, 9);
        both.column(2, 8, true);
        both.column(6, 0, true);
        due("forward by 4 in 8 rows: slant()", both.slant(), -4);
        both.column(8, 8, true);
        both.column(4, 0, true);
        // -4, -2, 2 and 4 each bring two of the spots together: of the two nearest that below 0.
        due("both ways by 4 in 8 rows: slant()", both.slant(), -2);
        SignCutter steep = new SignCutter(60, 40);
        steep.column(0, 0, true);
        steep.column(29, 39, true);
        due("leaning back by 29 in 39 rows: slant()", steep.slant(), 6);
        steep.column(29, 39, false);
        steep.column(30, 39, true);
        due("leaning back by 30 in 39 rows: slant()", steep.slant(), 0);
        SignCutter far = new SignCutter(60, 40);
        far.column(30, 0, true);
        far.column(0, 39, true);
        due("leaning forward by 30 in 39 rows: slant()", far.slant(), -6);
        far.column(30, 0, false);
        far.column(31, 0, true);
        due("leaning forward by 31 in 39 rows: slant()", far.slant(), 0);
        SignCutter corners = new SignCutter(60, 40);
        for (int y = 0; y < 40; y++) {
            corners.column(0, y, true);
            corners.column(59, y, true);
        }
        due("both edges: slant()", corners.slant(), 0);
    }

    private static void slantRoundsDown() {
        // -1 / 8 rounded down is -1: a row higher, a spot comes one column to the left already.
        due("one to the right in one row: slant()", line(".#", "#.").slant(), -1);
        // 6 / 8 rounded down is 0: none of the shears brings these together.
        due("one to the left in one row: slant()", line("#.", ".#").slant(), 0);
    }

    private static void plainCountsAndStopsAtABillion() {
        SignCutter full = line("############################################################");
        due("60 dark: plain(1)", full.plain(1), 1);
        due("60 dark: plain(2)", full.plain(2), 59);
        due("60 dark: plain(7)", full.plain(7), 45057474);
        due("60 dark: plain(8)", full.plain(8), 341149446);
        due("60 dark: plain(9)", full.plain(9), 1000000000);
        due("60 dark: plain(30)", full.plain(30), 1000000000);
        due("60 dark: plain(51)", full.plain(51), 1000000000);
        due("60 dark: plain(52)", full.plain(52), 1000000000);
        due("60 dark: plain(53)", full.plain(53), 341149446);
        due("60 dark: plain(60)", full.plain(60), 1);
        due("60 dark: plain(61)", full.plain(61), 0);
        int[] wrongs = {0, -1, 62, Integer.MIN_VALUE, Integer.MAX_VALUE};
        for (int k : wrongs) {
            due("60 dark: plain(" + k + ")", full.plain(k), 0);
        }
        SignCutter one = new SignCutter(1, 1);
        one.column(0, 0, true);
        due("one spot: plain(1)", one.plain(1), 1);
        due("one spot: plain(2)", one.plain(2), 0);
        SignCutter thick = line("###", "###", "###");
        due("no place to cut: plain(1)", thick.plain(1), 1);
        due("no place to cut: plain(2)", thick.plain(2), 0);
    }

    private static void plainLooksAtTheLineOfNow() {
        SignCutter line = line("#.#");
        due("#.# not cut: plain(2)", line.plain(2), 2);
        line.cut(1);
        due("#.# cut: plain(2)", line.plain(2), 2);
        line.column(1, 0, true);
        due("###: plain(2)", line.plain(2), 2);
        due("###: plain(3)", line.plain(3), 1);
        due("###: way of #.# kept", line.way(0, 1), 1);
    }
}
