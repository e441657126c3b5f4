/** What SHELVES, ROWS, LAYINGS, ACTS and THE IMAGE bound, a test for each sentence. */
public final class ShelfEdgesTest {
    private static final Due due = new Due();
    private static final int MAX = Integer.MAX_VALUE;
    private static final int MIN = Integer.MIN_VALUE;

    private ShelfEdgesTest() {
    }

    public static void main(String[] args) {
        eightShelves();
        nothingAtFirst();
        fourSorts();
        elementsOfARow();
        noughtAtFirst();
        eachOverEachOther();
        lowestBits();
        copiesToTheEnds();
        copiesAsTheyWere();
        copiesOfNone();
        copiesOfAll();
        copiesBetweenShelves();
        layingsByA();
        layingsOfNothing();
        whatAIsZeroThen();
        kindsAndThoseAbove();
        judgedElements();
        judgedAsInts();
        judgedInMonths();
        actsWrap();
        traces();
        tracesOfTheLatest();
        imageOfNothing();
        imageOfAll();
        imageAgain();
        imageLeavesTheRest();
        statuses();
        due.end();
    }

    // ---- ROWS

    private static void eightShelves() {
        due.about("SHELVES 0 to 7");
        LightAlong x = new LightAlong();
        for (int s = 0; s < 8; s++) {
            due.is("row in " + s, x.row(s, 2, 1), 1);
            due.is("set in " + s, x.set(s, 0, 50 + s), 1);
            due.is("holds of " + s, x.holds(s), 102);
        }
        for (int s = 0; s < 8; s++) due.is("each has its own", x.element(s, 0), 50 + s);
        for (int s = 0; s < 8; s++) {
            due.is("laying in " + s, x.laying(s, 1, s % 2), 1);
            due.is("holds of " + s, x.holds(s), 1);
        }
        for (int s = 0; s < 8; s++) due.is("each has its own", x.says(s, 1), s % 2);
        for (int s : new int[] {-1, 8, MIN, MAX}) {
            due.is("row in " + s, x.row(s, 2, 1), -1);
            due.is("laying in " + s, x.laying(s, 0, 0), -1);
            due.is("holds of " + s, x.holds(s), -1);
            due.is("element of " + s, x.element(s, 0), 0);
        }
    }

    private static void nothingAtFirst() {
        due.about("SHELVES hold NOTHING (at first)");
        LightAlong x = new LightAlong();
        for (int s = 0; s < 8; s++) {
            due.is("holds of " + s, x.holds(s), -1);
            due.is("element of " + s, x.element(s, 0), 0);
            due.is("set in " + s, x.set(s, 0, 1), -3);
            due.is("says of " + s, x.says(s, 0), -3);
            due.is("street of " + s, x.street(s), -3);
            due.is("act of " + s, x.act(s, 0, 9), 0);
        }
    }

    private static void fourSorts() {
        due.about("a SORT (0 bytes, 1 shorts, 2 ints, 3 longs); 100 and the SORT of a ROW");
        LightAlong x = new LightAlong();
        for (int sort = 0; sort < 4; sort++) {
            due.is("sort " + sort, x.row(0, sort, 3), 1);
            due.is("holds", x.holds(0), 100 + sort);
        }
        due.is("sort -1", x.row(0, -1, 3), -6);
        due.is("sort 4", x.row(0, 4, 3), -6);
        due.is("holds the last one", x.holds(0), 103);
    }

    private static void elementsOfARow() {
        due.about("0 to 120 elements");
        LightAlong x = new LightAlong();
        for (int n : new int[] {0, 1, 2, 119, 120}) {
            due.is("row of " + n, x.row(0, 1, n), 1);
            if (n > 0) due.is("the first of " + n, x.set(0, 0, 5), 1);
            if (n > 0) due.is("the last of " + n, x.set(0, n - 1, 7), 1);
            due.is("the last of " + n, x.element(0, n - 1), n == 0 ? 0 : 7);
            due.is("behind the last of " + n, x.set(0, n, 9), -5);
            due.is("behind the last of " + n, x.element(0, n), 0);
            due.is("before the first of " + n, x.set(0, -1, 9), -5);
            due.is("before the first of " + n, x.element(0, -1), 0);
        }
        due.is("row of -1", x.row(0, 1, -1), -4);
        due.is("row of 121", x.row(0, 1, 121), -7);
        due.is("the last stays", x.element(0, 119), 7);
        due.is("far behind", x.set(0, MAX, 1), -5);
        due.is("far before", x.set(0, MIN, 1), -5);
        due.is("far behind", x.element(0, MAX), 0);
        due.is("far before", x.element(0, MIN), 0);
    }

    private static void noughtAtFirst() {
        due.about("elements, 0 at first");
        LightAlong x = new LightAlong();
        x.row(0, 3, 120);
        for (int i = 0; i < 120; i++) due.is("element " + i, x.element(0, i), 0);
        for (int i = 0; i < 120; i++) x.set(0, i, -1);
        x.row(0, 3, 120);
        for (int i = 0; i < 120; i++) due.is("anew " + i, x.element(0, i), 0);
    }

    private static void eachOverEachOther() {
        due.about("hold NOTHING, a ROW, or a LAYING: each over each other one");
        for (int was = 0; was < 3; was++) {
            LightAlong x = new LightAlong();
            for (int s = 0; s < 4; s++) {
                if (was == 1) x.row(s, 3, 9);
                if (was == 1) x.set(s, 8, 5);
                if (was == 2) x.laying(s, 6, 7);
            }
            due.is("row", x.row(0, 2, 3), 1);
            due.is("holds", x.holds(0), 102);
            due.is("its end", x.set(0, 3, 1), -5);
            due.is("no laying", x.says(0, 0), -2);
            due.is("laying", x.laying(1, 0, 0), 1);
            due.is("holds", x.holds(1), 0);
            due.is("no row", x.set(1, 0, 1), -2);
            due.is("no element", x.element(1, 8), 0);
            due.is("nothing", x.laying(2, -1, 0), 0);
            due.is("holds", x.holds(2), -1);
            due.is("neither", x.set(2, 0, 1), -3);
            due.is("neither", x.says(2, 6), -3);
            due.is("no element", x.element(2, 8), 0);
            due.is("the fourth stays", x.holds(3), was == 0 ? -1 : was == 1 ? 103 : 6);
            due.is("row again", x.row(2, 3, 120), 1);
            due.is("it is new", x.element(2, 8), 0);
        }
    }

    private static void lowestBits() {
        due.about("what is put in keeps its lowest bits");
        long int31 = 1L << 31;
        long[][] bytes = {{127, 127}, {128, -128}, {255, -1}, {256, 0}, {257, 1}, {-128, -128}, {-129, 127},
            {-256, 0}, {Long.MAX_VALUE, -1}, {Long.MIN_VALUE, 0}};
        long[][] shorts = {{32767, 32767}, {32768, -32768}, {65535, -1}, {65536, 0}, {-32768, -32768}, {-32769, 32767},
            {128, 128}, {Long.MAX_VALUE, -1}, {Long.MIN_VALUE, 0}};
        long[][] ints = {{MAX, MAX}, {int31, MIN}, {2 * int31 - 1, -1}, {2 * int31, 0}, {MIN, MIN}, {-int31 - 1, MAX},
            {65536, 65536}, {Long.MAX_VALUE, -1}, {Long.MIN_VALUE, 0}};
        long[][] longs = {{Long.MAX_VALUE, Long.MAX_VALUE}, {Long.MIN_VALUE, Long.MIN_VALUE}, {int31, int31},
            {-int31 - 1, -int31 - 1}, {-1, -1}, {0, 0}};
        long[][][] all = {bytes, shorts, ints, longs};
        for (int sort = 0; sort < 4; sort++) {
            LightAlong x = new LightAlong();
            x.row(0, sort, 2);
            for (long[] v : all[sort]) {
                due.is("set " + v[0], x.set(0, 1, v[0]), 1);
                due.is(v[0] + " of sort " + sort, x.element(0, 1), v[1]);
                due.is("the other one", x.element(0, 0), 0);
            }
        }
    }

    // ---- copies

    private static LightAlong rows(int sort) {
        LightAlong x = new LightAlong();
        x.row(0, sort, 5);
        x.row(1, sort, 3);
        for (int i = 0; i < 5; i++) x.set(0, i, 10 + i);
        for (int i = 0; i < 3; i++) x.set(1, i, 20 + i);
        return x;
    }

    private static void elements(LightAlong x, int s, long... elements) {
        for (int i = 0; i < elements.length; i++) due.is("element " + i + " of " + s, x.element(s, i), elements[i]);
    }

    private static void copiesToTheEnds() {
        due.about("4 an end that isn't there");
        LightAlong x = rows(2);
        due.is("to both ends", x.copy(0, 1, 2, 0, 3), 1);
        elements(x, 1, 12, 13, 14);
        due.is("behind the end of the first", x.copy(0, 1, 3, 0, 3), -5);
        due.is("behind the end of the other", x.copy(0, 1, 2, 1, 3), -5);
        due.is("more than the other has", x.copy(0, 1, 0, 0, 4), -5);
        due.is("more than the first has", x.copy(1, 0, 0, 0, 4), -5);
        due.is("the last one", x.copy(0, 1, 4, 2, 1), 1);
        due.is("behind the last one", x.copy(0, 1, 5, 2, 1), -5);
        due.is("behind the last one", x.copy(0, 1, 4, 3, 1), -5);
        due.is("before the first one", x.copy(0, 1, -1, 0, 1), -5);
        due.is("before the first one", x.copy(0, 1, 0, -1, 1), -5);
        due.is("far", x.copy(0, 1, MAX, 0, 1), -5);
        due.is("far", x.copy(0, 1, 0, MAX, 1), -5);
        due.is("far", x.copy(0, 1, 1, 1, MAX), -5);
        elements(x, 1, 12, 13, 14);
        elements(x, 0, 10, 11, 12, 13, 14, 0);
    }

    private static void copiesAsTheyWere() {
        due.about("4 copy: (as they were ahead)");
        for (int sort = 0; sort < 4; sort++) {
            LightAlong x = rows(sort);
            due.is("one on", x.copy(0, 0, 0, 1, 4), 1);
            elements(x, 0, 10, 10, 11, 12, 13);
            due.is("one back", x.copy(0, 0, 1, 0, 4), 1);
            elements(x, 0, 10, 11, 12, 13, 13);
            due.is("two on", x.copy(0, 0, 0, 2, 3), 1);
            elements(x, 0, 10, 11, 10, 11, 12);
            due.is("onto themselves", x.copy(0, 0, 0, 0, 5), 1);
            elements(x, 0, 10, 11, 10, 11, 12);
        }
    }

    private static void copiesOfNone() {
        due.about("4 copy: n of them, none");
        LightAlong x = rows(0);
        x.row(2, 0, 0);
        due.is("at the start", x.copy(0, 1, 0, 0, 0), 1);
        due.is("at both ends", x.copy(0, 1, 5, 3, 0), 1);
        due.is("behind the end", x.copy(0, 1, 6, 3, 0), -5);
        due.is("behind the other end", x.copy(0, 1, 5, 4, 0), -5);
        due.is("below", x.copy(0, 1, -1, 0, 0), -5);
        due.is("below", x.copy(0, 1, 0, -1, 0), -5);
        due.is("from an empty ROW", x.copy(2, 1, 0, 3, 0), 1);
        due.is("to an empty ROW", x.copy(0, 2, 5, 0, 0), 1);
        due.is("one from an empty ROW", x.copy(2, 1, 0, 0, 1), -5);
        due.is("one to an empty ROW", x.copy(0, 2, 0, 0, 1), -5);
        due.is("an empty ROW to itself", x.copy(2, 2, 0, 0, 0), 1);
        elements(x, 0, 10, 11, 12, 13, 14);
        elements(x, 1, 20, 21, 22);
    }

    private static void copiesOfAll() {
        due.about("4 copy: all 120 elements");
        LightAlong x = new LightAlong();
        x.row(0, 3, 120);
        x.row(7, 3, 120);
        for (int i = 0; i < 120; i++) x.set(0, i, Long.MIN_VALUE + i);
        due.is("copy", x.copy(0, 7, 0, 0, 120), 1);
        for (int i = 0; i < 120; i++) due.is("element " + i, x.element(7, i), Long.MIN_VALUE + i);
        due.is("one too many", x.copy(0, 7, 0, 0, 121), -5);
        due.is("one on", x.copy(0, 0, 0, 1, 119), 1);
        due.is("the last", x.element(0, 119), Long.MIN_VALUE + 118);
        due.is("beyond", x.copy(0, 0, 0, 1, 120), -5);
    }

    private static void copiesBetweenShelves() {
        due.about("4 copy: -2 also of two SORTS (when both hold something)");
        for (int a = 0; a < 4; a++) {
            for (int b = 0; b < 4; b++) {
                LightAlong x = new LightAlong();
                x.row(0, a, 3);
                x.row(1, b, 3);
                due.is("of " + a + " to " + b, x.copy(0, 1, 0, 0, 3), a == b ? 1 : -2);
                due.is("of " + a + " to " + b + ", none", x.copy(0, 1, 0, 0, 0), a == b ? 1 : -2);
                due.is("of " + a + " to NOTHING", x.copy(0, 2, 0, 0, 1), -3);
                due.is("of NOTHING to " + b, x.copy(2, 1, 0, 0, 1), -3);
            }
        }
    }

    // ---- LAYINGS

    private static void layingsByA() {
        due.about("6 -6 a: of ONE, TURN 0, 1; of DIM 0 to 11; of TOLD 0 to 511");
        int[][] bounds = {{1, 1, 1}, {3, 1, 3}, {4, 11, 4}, {6, 511, 6}};
        for (int[] b : bounds) {
            LightAlong x = new LightAlong();
            for (int a : new int[] {0, 1, b[1] - 1, b[1]}) {
                due.is(b[0] + " by " + a, x.laying(0, b[0], a), 1);
                due.is("says", x.says(0, b[2]), a);
            }
            for (int a : new int[] {-1, b[1] + 1, MIN, MAX}) {
                due.is(b[0] + " by " + a, x.laying(0, b[0], a), -6);
                due.is("stays", x.says(0, b[2]), b[1]);
                due.is("an empty SHELF stays", x.laying(1, b[0], a) + x.holds(1), -7);
            }
        }
        due.about("6 a LAYING of a KIND (0 to 6)");
        LightAlong x = new LightAlong();
        for (int kind = 0; kind < 7; kind++) due.is("kind " + kind, x.laying(kind, kind, 0), 1);
        for (int kind = 0; kind < 7; kind++) due.is("holds " + kind, x.holds(kind), kind);
        due.is("kind -2", x.laying(0, -2, 0), -1);
        due.is("kind 7", x.laying(0, 7, 0), -1);
    }

    private static void layingsOfNothing() {
        due.about("6 (kind NONE) NOTHING: 0");
        LightAlong x = new LightAlong();
        due.is("over NOTHING", x.laying(0, -1, 0), 0);
        x.row(1, 3, 5);
        due.is("over a ROW", x.laying(1, LightAlong.NONE, MAX), 0);
        x.laying(2, 4, 11);
        due.is("over a LAYING", x.laying(2, -1, MIN), 0);
        for (int s = 0; s < 3; s++) due.is("holds", x.holds(s), -1);
        due.is("no such SHELF", x.laying(8, -1, 0), -1);
        due.is("no such SHELF", x.laying(-1, -1, 0), -1);
    }

    private static void whatAIsZeroThen() {
        due.about("6 of the others it doesn't matter (0 then)");
        for (int kind : new int[] {0, 2, 5}) {
            for (int a : new int[] {-1, 0, 1, 512, MIN, MAX}) {
                LightAlong x = new LightAlong();
                due.is(kind + " by " + a, x.laying(3, kind, a), 1);
                int burns = kind == 5 ? 103 ^ 5 : 103;
                int falls = kind == 0 ? burns * 2 : burns * 6;
                due.is("costs of " + kind + " by " + a, x.act(3, 2, 100), falls ^ burns);
            }
        }
    }

    private static void kindsAndThoseAbove() {
        due.about("8 -2 also another KIND");
        for (int kind = 0; kind < 7; kind++) {
            LightAlong x = new LightAlong();
            x.laying(0, kind, 0);
            for (int taken = 0; taken < 7; taken++) {
                boolean under = taken == 0 || taken == kind || taken == 2 && (kind == 3 || kind == 5);
                due.is(kind + " taken for " + taken, x.says(0, taken), under ? 0 : -2);
            }
            due.is(kind + " taken for -1", x.says(0, -1), -1);
            due.is(kind + " taken for 7", x.says(0, 7), -1);
        }
    }

    // ---- judge

    private static void judgedElements() {
        due.about("39 the first POINT .. (i the POINT, 0 to 119; missing ones: 0)");
        LightAlong x = Streets.along("shop 0 8 1;shop 119 8 1;long 1");
        x.laying(0, 0, 0);
        x.row(1, 2, 0);
        due.is("an empty ROW", x.judge(0, 1, 0), 0);
        x.row(1, 2, 1);
        x.set(1, 0, 8);
        due.is("one element", x.judge(0, 1, 0), 2);
        x.row(1, 2, 120);
        x.set(1, 0, 8);
        x.set(1, 2, 4);
        x.set(1, 4, 2);
        due.is("the other end", x.judge(0, 1, 0), 115);
        x.set(1, 115, 2);
        x.set(1, 117, 4);
        due.is("the last POINT", x.judge(0, 1, 0), 119);
        x.set(1, 119, 8);
        due.is("all are", x.judge(0, 1, 0), -1);
        x.set(1, 60, 1);
        due.is("light where none is", x.judge(0, 1, 0), 60);
        x.set(1, 1, -1);
        due.is("the first", x.judge(0, 1, 0), 1);
        x = Streets.along("shop 118 1 1;shop 1 1 1");
        x.laying(0, 0, 0);
        x.row(1, 0, 120);
        x.set(1, 1, 1);
        due.is("the last of SIDE 0", x.judge(0, 1, 0), 118);
        x.set(1, 118, 1);
        due.is("all are", x.judge(0, 1, 0), -1);
        x.shop(118, 9, 1);
        x.set(1, 118, 10);
        x.set(1, 116, 4);
        x.set(1, 114, 2);
        due.is("nothing behind the last", x.judge(0, 1, 0), -1);
        x = new LightAlong();
        x.laying(0, 0, 0);
        x.row(1, 0, 0);
        due.is("dark, an empty ROW", x.judge(0, 1, 0), -1);
        x.row(1, 0, 120);
        due.is("dark, a full ROW", x.judge(0, 1, 0), -1);
    }

    private static void judgedAsInts() {
        due.about("39 elements as ints");
        LightAlong x = Streets.along("shop 0 200 1");
        x.laying(0, 0, 0);
        long[][] elements = {{200, 100, 50}, {200, 100, 50}, {200, 100, 50}, {200 + (1L << 32), 100 - (1L << 40), 50}};
        int[] judged = {0, -1, -1, -1};
        for (int sort = 0; sort < 4; sort++) {
            x.row(1, sort, 5);
            for (int i = 0; i < 3; i++) x.set(1, 2 * i, elements[sort][i]);
            // A byte can't be 200.
            due.is("sort " + sort, x.judge(0, 1, 0), judged[sort]);
        }
        x.set(1, 4, 50 + (1L << 31));
        due.is("bit 31 counts", x.judge(0, 1, 0), 4);
    }

    private static void judgedInMonths() {
        due.about("39 in a MONTH at HOUR 0");
        LightAlong x = Streets.along("sort 2 4 0 1;place 0 0;tree 2;shop 100 9 0;long 1");
        x.laying(0, 4, 1);
        x.row(1, 2, 0);
        due.is("no light", x.judge(0, 1, 0), -1);
        x.row(1, 2, 120);
        x.lamp(0, 0);
        for (int p = 0; p < 120; p++) x.set(1, p, x.light(0, p, 3, 0));
        for (int month = 0; month < 12; month++) {
            due.is("month " + month, x.judge(0, 1, month), month == 3 || month == 9 ? -1 : 4);
        }
        x.laying(0, 4, 0);
        due.is("DIM from HOUR 0", x.judge(0, 1, 3), 0);
        x.out(0, true);
        due.is("OUT", x.judge(0, 1, 3), 0);
    }

    // ---- ACTS

    private static void actsWrap() {
        due.about("40 ACTS with x (wrapping); m its SHELF, k its a");
        int[] xs = {0, 1, -1, 1000, MAX, MAX - 1, MIN, MIN + 1, MAX / 2, MAX / 2 + 1, MAX / 3, MIN / 2 - 1};
        int[] most = {0, 1, 0, 1, 11, 0, 511};
        for (int kind = 0; kind < 7; kind++) {
            for (int m : new int[] {0, 7}) {
                for (int k : new int[] {0, most[kind]}) {
                    LightAlong x = new LightAlong();
                    x.laying(m, kind, k);
                    for (int v : xs) {
                        String call = " of KIND " + kind + " in " + m + " by " + k + " with " + v;
                        due.is("burns" + call, x.act(m, 0, v), burns(kind, m, k, v));
                        due.is("falls" + call, x.act(m, 1, v), falls(kind, m, k, v));
                        due.is("costs" + call, x.act(m, 2, v), costs(kind, m, k, v));
                    }
                }
            }
        }
    }

    private static int burns(int kind, int m, int k, int x) {
        int[] burns = {x + m, x + m + k, x + m, x, x + m, (x + m) ^ 5, x + m};
        return burns[kind];
    }

    private static int falls(int kind, int m, int k, int x) {
        int[] falls = {2 * (x + m), 2 * (x + m + k), 6 * (x + m), 6 * (x + 1), 2 * (x + m), 6 * ((x + m) ^ 5), 4 * (x + m)};
        return falls[kind];
    }

    private static int costs(int kind, int m, int k, int x) {
        int y = kind == 6 ? x - k : x;
        int costs = falls(kind, m, k, y) ^ burns(kind, m, k, y - k);
        return kind == 4 ? -costs : costs;
    }

    private static void traces() {
        due.about("41 THE TRACE: in the order in which they began");
        String[][] bodies = {{"10", "11 10", "12 11 10 10"}, {"20 10", "11 20 10", "12 11 20 10 20 10"},
            {"10", "30 11 10", "12 30 11 10 10"}, {"41 10", "40 30 11 41 10", "12 40 30 11 41 10 41 10"},
            {"10", "11 10", "50 12 11 10 10"}, {"60 10", "30 11 60 10", "12 30 11 60 10 60 10"},
            {"10", "70 11 10", "71 12 70 11 10 10"}};
        for (int kind = 0; kind < 7; kind++) {
            LightAlong x = new LightAlong();
            x.laying(kind, kind, 1);
            for (int act = 0; act < 3; act++) {
                x.act(kind, act, 9);
                String[] due1 = bodies[kind][act].split(" ");
                String call = "act " + act + " of " + kind;
                for (int i = 0; i < due1.length; i++) due.is(call, x.trace(i), Integer.parseInt(due1[i]));
                for (int i = due1.length; i < 22; i++) due.is(call + ", behind the last", x.trace(i), -1);
                due.is(call + ", before the first", x.trace(-1), -1);
                due.is(call + ", how many", x.status(9), due1.length);
            }
        }
    }

    private static void tracesOfTheLatest() {
        due.about("41 bodies that ran in the latest act()");
        LightAlong x = new LightAlong();
        due.is("none yet", x.trace(0), -1);
        due.is("none yet", x.status(9), 0);
        x.laying(0, 3, 1);
        x.act(0, 2, 1);
        due.is("eight", x.status(9), 8);
        x.act(0, 0, 1);
        due.is("two", x.status(9), 2);
        due.is("the last of two", x.trace(1), 10);
        due.is("the old ones are gone", x.trace(2), -1);
        x.laying(0, 0, 0);
        due.is("a LAYING doesn't touch it", x.trace(0), 41);
        x.laying(0, -1, 0);
        x.row(1, 0, 1);
        due.about("40 0, and no TRACE then: none there, no such act");
        for (int s : new int[] {-1, 0, 1, 8, MIN, MAX}) {
            x.laying(2, 1, 1);
            x.act(2, 0, 5);
            due.is("a TRACE", x.status(9), 2);
            due.is("SHELF " + s, x.act(s, 0, 5), 0);
            due.is("no TRACE", x.trace(0), -1);
            due.is("no bodies", x.status(9), 0);
        }
        for (int act : new int[] {-1, 3, MIN, MAX}) {
            x.act(2, 1, 5);
            due.is("a TRACE", x.status(9), 3);
            due.is("act " + act, x.act(2, act, 5), 0);
            due.is("no TRACE", x.trace(0), -1);
            due.is("no bodies", x.status(9), 0);
        }
        for (int n = 1; n <= 7; n++) due.is("REFUSALS -" + n, x.status(10 + n), 0);
    }

    // ---- THE IMAGE

    private static void imageOfNothing() {
        due.about("43 -6 there is none; 42, 43 how many PLACES");
        LightAlong x = new LightAlong();
        due.is("none yet", x.restore(), -6);
        due.is("of nothing", x.image(), 0);
        x.place(1, 1);
        x.sort(1, 1, 1, 1);
        x.ask(0, 7);
        due.is("back to nothing", x.restore(), 0);
        for (int what = 0; what < 9; what++) due.is("status " + what, x.status(what), 0);
        due.is("LEAST", x.ask(0, 7), 20);
        due.is("a new PLACE", x.place(1, 1), 0);
        for (int i = 1; i < 9; i++) x.place(1, 1);
        due.is("of nine", x.image(), 9);
        due.is("nine", x.restore(), 9);
        due.is("no room", x.place(1, 1), -7);
    }

    private static LightAlong full() {
        LightAlong x = new LightAlong();
        for (int i = 0; i < 6; i++) x.sort(1 + i, 2, 3, 4);
        for (int i = 0; i < 9; i++) x.place(i, 1);
        for (int i = 0; i < 12; i++) {
            x.stand(0, 2 * i);
            x.stand(1, 2 * i + 1);
            x.window(i, i);
        }
        for (int i = 0; i < 8; i++) x.shop(i, 9, 9);
        for (int i = 0; i < 6; i++) x.stand(2, i);
        for (int what = 0; what < 4; what++) x.ask(what, 11 + what % 2);
        x.lay(511, 5);
        x.out(8, true);
        return x;
    }

    private static void imageOfAll() {
        due.about("42 all but SHELVES: empty and full");
        int[] most = {6, 9, 9, 1, 12, 12, 12, 8, 6};
        LightAlong x = full();
        due.is("of all", x.image(), 9);
        due.is("all go", x.lay(0, 0), 0);
        for (int what = 0; what < 4; what++) x.ask(what, 5);
        due.is("all come back", x.restore(), 9);
        for (int what = 0; what < 9; what++) due.is("status " + what, x.status(what), most[what]);
        for (int what = 0; what < 4; what++) due.is("ask " + what, x.ask(what, 5), 11 + what % 2);
        due.is("its SORT", x.placeOf(8, 2), 5);
        due.is("OUT", x.placeOf(8, 3), 1);
        due.is("burns", x.placeOf(7, 3), 0);
        due.is("the last SORT", x.sortOf(5, 0), 6);
        LightAlong y = new LightAlong();
        y.image();
        for (int i = 0; i < 12; i++) {
            y.stand(0, i);
            y.stand(1, i);
            y.stand(2, i);
            y.window(i, i);
            y.shop(i, 9, 9);
            y.place(i, 1);
            y.sort(1, 1, 1, 1);
        }
        y.restore();
        for (int what = 0; what < 9; what++) due.is("emptied, status " + what, y.status(what), 0);
        due.is("there is room again", y.stand(2, 1), 1);
    }

    private static void imageAgain() {
        due.about("43 as THE IMAGE has it, again and again; a new one instead of the old");
        LightAlong x = new LightAlong();
        x.place(1, 1);
        x.image();
        for (int i = 0; i < 3; i++) {
            x.place(2, 2);
            x.place(3, 3);
            due.is("restore " + i, x.restore(), 1);
            due.is("PLACES", x.status(1), 1);
        }
        x.place(2, 2);
        due.is("a new one", x.image(), 2);
        x.place(3, 3);
        due.is("restored", x.restore(), 2);
        due.is("changes don't reach it", x.placeOf(1, 1), 2);
    }

    private static void imageLeavesTheRest() {
        due.about("42 but SHELVES (and THE IMAGE, REFUSALS, the FAULT, THE TRACE)");
        LightAlong x = new LightAlong();
        x.sort(1, 1, 1, 1);
        x.place(0, 0);
        x.image();
        x.row(0, 3, 2);
        x.set(0, 1, 77);
        x.place(1, 0);
        x.lay(1, 0);
        x.laying(1, 5, 0);
        x.laying(2, 6, 2);
        x.lay(2, 0);
        x.street(0);
        x.act(1, 0, 1);
        x.light(0, -1, 0, 0);
        due.is("restore", x.restore(), 1);
        due.is("the ROW", x.element(0, 1), 77);
        due.is("the LAYING", x.says(1, 5), 1);
        due.is("the LAYING", x.says(2, 6), 2);
        due.is("none of its PLACES has a lamp", x.says(1, 0), 0);
        due.is("the FAULT", x.fault(), 0);
        due.is("THE TRACE", x.trace(0), 60);
        due.is("bodies", x.status(9), 2);
        due.is("REFUSALS -6", x.status(16), 1);
        due.is("REFUSALS -1", x.status(11), 1);
        x.lamp(0, 0);
        due.is("lamps of the rest", x.says(1, 2), 1);
        due.is("light of the rest", x.light(1, 0, 0, 0), 1000);
        due.is("TOLD a PLACE that is gone", x.light(2, 0, 0, 0), 0);
        due.is("THE IMAGE", x.restore(), 1);
    }

    // ---- status

    private static void statuses() {
        due.about("44 How many: 0 to 9, 11 to 17; NONE for another what");
        LightAlong x = full();
        int[] most = {6, 9, 9, 1, 12, 12, 12, 8, 6, 0};
        for (int what = 0; what < 10; what++) due.is("status " + what, x.status(what), most[what]);
        for (int what : new int[] {-1, 10, 18, -11, MIN, MAX}) due.is("status " + what, x.status(what), -1);
        for (int what = 11; what < 18; what++) due.is("status " + what, x.status(what), 0);
        for (int p = 0; p < 9; p++) x.out(p, true);
        due.is("all are OUT", x.status(3), 9);
        due.is("lamps still", x.status(2), 9);
        x.lay(0, 0);
        due.is("none is OUT", x.status(3), 0);
        due.is("no lamps", x.status(2), 0);
    }
}
