/** What 'LIGHT' bounds, a test for each sentence: months, hours, ends of the street, what is cut, just bright enough. */
public final class LightEdgesTest {
    private static final Due due = new Due();
    private static final int MAX = Integer.MAX_VALUE;
    private static final int MIN = Integer.MIN_VALUE;

    private LightEdgesTest() {
    }

    public static void main(String[] args) {
        monthsOfLeaves();
        cutTimesFour();
        greatestAndLeastLight();
        squareOfYards();
        wideIfTheSidesAreTwo();
        between("TREES", 0);
        between("WALLS", 1);
        noYardBetween();
        cutForEachTree();
        treesWithoutLeaves();
        manyWalls();
        outGivesNothing();
        all();
        one();
        both();
        turnTakesSides();
        turnByYardsThenByNumbers();
        turnPassesOver();
        dimFromAnHour();
        dimIsCutForEachLamp();
        there();
        told();
        shopsByHours();
        shopsAside();
        shopsAtTheEnds();
        shopsWhateverElse();
        pointsBeyondLong();
        faceAhead();
        faceCutsEach();
        faceAtTheEnds();
        leastJustSo();
        leastAtFirst();
        poolJustSo();
        poolsAsideForLeast();
        evenJustSo();
        evenAtFirst();
        poolsAsideForEven();
        firstOfTheLeast();
        windowJustSo();
        firstWindow();
        firstRuleThatDoesNotHold();
        nothingMustBeLight();
        rulesByHours();
        longForRules();
        longAtFirst();
        longOfOneAndOfSixty();
        due.end();
    }

    private static int light(LightAlong x, int point, int month) {
        return x.light(0, point, month, 0);
    }

    private static void rule(LightAlong x, String call, int rule, int point) {
        ruleAt(x, 0, call, rule, point);
    }

    private static void ruleAt(LightAlong x, int hour, String call, int rule, int point) {
        due.is(call, x.faulty(0, 0, hour), rule);
        due.is(call + ", POINT", x.dark(0, 0, hour), point);
    }

    /** A street with the LAYING in SHELF 0. */
    private static LightAlong laid(String text) {
        LightAlong x = Streets.along(text);
        x.laying(0, 0, 0);
        return x;
    }

    /** One lamp of a SORT at a POINT, the LAYING in SHELF 0. */
    private static LightAlong lit(String sort, int point) {
        LightAlong x = laid("sort " + sort + ";place " + point + " 0");
        x.lamp(0, 0);
        return x;
    }

    // ---- one lamp

    private static void monthsOfLeaves() {
        due.about("LEAVES 0 (months 0 to 2, 10, 11), 1 (3, 9), 2 (4, 8), 3 (5 to 7)");
        LightAlong x = lit("2 40 7 6", 20);
        x.stand(0, 22);
        int[] due12 = {3076, 3076, 3076, 2307, 1538, 769, 769, 769, 1538, 2307, 3076, 3076};
        for (int month = 0; month < 12; month++) due.is("month " + month, light(x, 26, month), due12[month]);
        due.is("month -1", light(x, 26, -1), -6);
        due.is("month 12", light(x, 26, 12), -6);
        for (int hour = 0; hour < 12; hour++) due.is("hour " + hour, x.light(0, 26, 6, hour), 769);
        due.is("hour -1", x.light(0, 26, 6, -1), -6);
        due.is("hour 12", x.light(0, 26, 6, 12), -6);
    }

    private static void cutTimesFour() {
        due.about("1000 times POWER by .., cut");
        due.is("1000 / 9", light(lit("3 1 0 1", 0), 0, 0), 111);
        due.is("5000 / 9", light(lit("3 5 0 1", 0), 0, 0), 555);
        due.is("9000 / 9", light(lit("3 9 0 1", 0), 0, 0), 1000);
        due.is("1000 / 1025 is none", light(lit("1 1 0 1", 0), 64, 0), 0);
        due.is("1000 / 962 is 1", light(lit("1 1 0 1", 0), 62, 0), 1);
    }

    private static void greatestAndLeastLight() {
        due.about("HEIGHT (1 to 12), POWER (1 to 99) in the light");
        due.is("the lowest and strongest", light(lit("1 99 0 1", 0), 0, 0), 99000);
        due.is("the highest and weakest", light(lit("12 1 0 1", 0), 0, 0), 6);
        due.is("the lowest and weakest", light(lit("1 1 0 1", 0), 0, 0), 1000);
        due.is("the highest and strongest", light(lit("12 99 0 1", 0), 0, 0), 687);
        due.is("at the other end", light(lit("12 99 0 1", 0), 118, 0), 27);
        due.is("from there back", light(lit("12 99 0 1", 118), 0, 0), 27);
        due.is("the weakest there", light(lit("12 1 0 1", 0), 118, 0), 0);
    }

    private static void squareOfYards() {
        due.about("the square of the YARDS between");
        LightAlong x = lit("2 40 7 6", 60);
        int[] squares = {10000, 8000, 5000, 3076, 2000, 1379, 1000};
        for (int yards = 0; yards < squares.length; yards++) {
            due.is(yards + " on", light(x, 60 + 2 * yards, 0), squares[yards]);
            due.is(yards + " back", light(x, 60 - 2 * yards, 0), squares[yards]);
        }
    }

    private static void wideIfTheSidesAreTwo() {
        due.about("and that of WIDE if the SIDES are two");
        for (int point : new int[] {60, 61}) {
            LightAlong x = lit("2 40 7 6", point);
            int across = point == 60 ? 61 : 60;
            due.is("6 at first", light(x, across, 0), 1000);
            x.ask(2, 12);
            due.is("12", light(x, across, 0), 40000 / 148);
            due.is("not on its own SIDE", light(x, point, 0), 10000);
            x.ask(2, 1);
            due.is("1", light(x, across, 0), 8000);
            due.is("1, a yard off", light(x, across + 2, 0), 40000 / 6);
            due.is("not on its own SIDE", light(x, point + 2, 0), 8000);
        }
    }

    /** The lamp stands at YARD 10; light at YARDS 13 and 7. */
    private static void between(String things, int kind) {
        due.about(things + " on the PLACE's SIDE whose YARD is between the two (no end counts)");
        for (int its = 0; its < 2; its++) {
            for (int side = 0; side < 2; side++) {
                for (int yard = 0; yard < 60; yard++) {
                    LightAlong x = lit("2 40 7 6", 20 + its);
                    x.stand(kind, 2 * yard + side);
                    boolean on = side == its && (yard == 11 || yard == 12);
                    boolean back = side == its && (yard == 9 || yard == 8);
                    String call = "of YARD " + yard + ", SIDE " + side + " of a lamp of SIDE " + its;
                    due.is(call + " on", light(x, 26 + its, 6), !on ? 3076 : kind == 0 ? 769 : 0);
                    due.is(call + " on across", light(x, 27 - its, 6), !on ? 816 : kind == 0 ? 204 : 0);
                    due.is(call + " back", light(x, 14 + its, 6), !back ? 3076 : kind == 0 ? 769 : 0);
                    due.is(call + " back across", light(x, 15 - its, 6), !back ? 816 : kind == 0 ? 204 : 0);
                }
            }
        }
    }

    private static void noYardBetween() {
        due.about("no YARD is between one and itself, or the next");
        LightAlong x = lit("2 40 7 6", 20);
        for (int point = 18; point < 24; point++) {
            x.stand(0, point);
            x.stand(1, point);
        }
        due.is("its own", light(x, 20, 6), 10000);
        due.is("across", light(x, 21, 6), 1000);
        due.is("the next", light(x, 22, 6), 8000);
        due.is("the one before", light(x, 18, 6), 8000);
        due.is("the one after the next", light(x, 24, 6), 0);
    }

    private static void cutForEachTree() {
        due.about("for each TREE .. (4 less LEAVES) / 4, cut each time");
        // 1000 / (100 + 9) is 9; 9 * 3 / 4 is 6, 6 * 3 / 4 is 4; at once it would be 5.
        LightAlong x = lit("10 1 0 1", 20);
        int[] month3 = {9, 6, 4, 3, 2, 1, 0};
        int[] month4 = {9, 4, 2, 1, 0, 0, 0};
        int[] month5 = {9, 2, 0, 0, 0, 0, 0};
        for (int trees = 0; trees < 7; trees++) {
            due.is(trees + " by LEAVES 1", light(x, 26, 3), month3[trees]);
            due.is(trees + " by LEAVES 2", light(x, 26, 4), month4[trees]);
            due.is(trees + " by LEAVES 3", light(x, 26, 5), month5[trees]);
            x.stand(0, trees % 2 == 0 ? 22 : 24);
        }
    }

    private static void treesWithoutLeaves() {
        due.about("LEAVES 0: a TREE takes nothing");
        LightAlong x = lit("2 40 7 6", 20);
        for (int i = 0; i < 12; i++) x.stand(0, 22);
        for (int month : new int[] {0, 1, 2, 10, 11}) due.is("month " + month, light(x, 26, month), 3076);
        due.is("twelve TREES by LEAVES 3", light(x, 26, 7), 0);
        // 3076, 2307, 1730, 1297, 972, 729, 546, 409, 306, 229, 171, 128, 96.
        due.is("twelve TREES by LEAVES 1", light(x, 26, 9), 96);
    }

    private static void manyWalls() {
        due.about("Nothing, if a WALL stands between them, whatever the month");
        LightAlong x = lit("2 40 7 6", 20);
        for (int i = 0; i < 11; i++) x.stand(1, 2 * i);
        due.is("none ahead of it", light(x, 26, 0), 3076);
        x.stand(1, 24);
        for (int month = 0; month < 12; month++) due.is("the twelfth one is", light(x, 26, month), 0);
        due.is("before it", light(x, 24, 0), 5000);
    }

    private static void outGivesNothing() {
        due.about("A lamp that is OUT gives nothing");
        LightAlong x = lit("2 40 7 6", 20);
        x.out(0, true);
        for (int kind = 0; kind < 7; kind++) {
            x.laying(kind, kind, kind == 6 ? 1 : 0);
            due.is("light by " + kind, x.light(kind, 20, 0, 0), 0);
            due.is("face by " + kind, x.face(kind, 18, 0, 0), 0);
            due.is("shade by " + kind, x.shade(kind, 20, 0), -1);
            due.is("how many by " + kind, x.says(kind, 0), 0);
        }
        x.out(0, false);
        for (int kind = 0; kind < 7; kind++) due.is("again by " + kind, x.light(kind, 20, 0, 0), kind == 4 ? 5000 : 10000);
    }

    // ---- KINDS

    /** Lamps at YARDS 1 (SIDE 0), 2 (1), 3 (0), 4 (1). */
    private static LightAlong four() {
        LightAlong x = laid("sort 2 40 7 6;place 2 0;place 5 0;place 6 0;place 9 0");
        for (int p = 0; p < 4; p++) x.lamp(p, 0);
        return x;
    }

    private static void all() {
        due.about("0 LAYING: all");
        LightAlong x = four();
        due.is("all", x.says(0, 0), 4);
        x.out(3, true);
        due.is("OUT ones aside", x.says(0, 0), 3);
        x.lamp(0, -1);
        due.is("free ones aside", x.says(0, 0), 2);
        x.lay(0, 0);
        due.is("none", x.says(0, 0), 0);
        due.is("no PLACES", laid("long 1").says(0, 0), 0);
    }

    private static void one() {
        due.about("1 ONE: those on SIDE a alone (a 0, 1)");
        LightAlong x = four();
        for (int a = 0; a < 2; a++) {
            x.laying(1, 1, a);
            due.is("SIDE " + a, x.says(1, 0), 2);
            due.is("says its SIDE", x.says(1, 1), a);
            due.is("light from SIDE 0", x.shade(1, 2, 0), a == 0 ? 0 : 1);
            x.lay(a == 0 ? 10 : 5, 0);
            due.is("none there", x.says(1, 0), 0);
            x.lay(15, 0);
        }
        due.is("SIDE -1", x.laying(1, 1, -1), -6);
        due.is("SIDE 2", x.laying(1, 1, 2), -6);
    }

    private static void both() {
        due.about("2 BOTH: as LAYING; the PLACES of these lamps (bits)");
        LightAlong x = four();
        x.laying(1, 2, 7);
        due.is("all", x.says(1, 2), 15);
        x.out(0, true);
        due.is("OUT ones aside", x.says(1, 2), 14);
        x.lay(0, 0);
        due.is("none", x.says(1, 2), 0);
        for (int p = 4; p < 9; p++) x.place(p, 0);
        x.lay(511, 0);
        due.is("nine", x.says(1, 2), 511);
        due.is("nine", x.says(1, 0), 9);
    }

    private static void turnTakesSides() {
        due.about("3 TURN: a at first, then the other one than that of the last that burns");
        LightAlong x = four();
        x.laying(1, 3, 0);
        x.laying(2, 3, 1);
        due.is("0, 1, 0, 1", x.says(1, 2), 15);
        due.is("from 1 on", x.says(2, 2), 14);
        x.out(1, true);
        due.is("0, then YARD 4", x.says(1, 2), 9);
        due.is("YARD 4 alone", x.says(2, 2), 8);
        x.lay(5, 0);
        due.is("two of SIDE 0", x.says(1, 2), 1);
        due.is("none of SIDE 1", x.says(2, 2), 0);
        x.lay(10, 0);
        due.is("none of SIDE 0", x.says(1, 2), 0);
        due.is("two of SIDE 1", x.says(2, 2), 2);
        x.lay(0, 0);
        due.is("no lamps", x.says(1, 2), 0);
        due.is("says its SIDE", x.says(1, 3), 0);
        due.is("says its SIDE", x.says(2, 3), 1);
    }

    private static void turnByYardsThenByNumbers() {
        due.about("3 TURN: by YARDS (then by numbers)");
        LightAlong x = laid("sort 2 40 7 6;place 119 0;place 118 0;place 1 0;place 0 0;place 60 0;place 61 0;place 60 0");
        x.lay(127, 0);
        x.laying(1, 3, 0);
        x.laying(2, 3, 1);
        // YARD 0: 2 (SIDE 1), 3 (0); YARD 30: 4 (0), 5 (1), 6 (0); YARD 59: 0 (1), 1 (0).
        due.is("from 0 on: 3, 5, 6, 0, 1", x.says(1, 2), 8 + 32 + 64 + 1 + 2);
        due.is("from 1 on: 2, 3, 5, 6, 0, 1", x.says(2, 2), 4 + 8 + 32 + 64 + 1 + 2);
    }

    private static void turnPassesOver() {
        due.about("3 TURN: lamps that aren't OUT");
        LightAlong x = four();
        x.laying(1, 3, 0);
        x.out(0, true);
        due.is("the first is OUT: 2, 3", x.says(1, 2), 12);
        x.out(3, true);
        due.is("the last too: 2", x.says(1, 2), 4);
        x.lamp(2, -1);
        due.is("1 alone is left, of SIDE 1", x.says(1, 2), 0);
    }

    private static void dimFromAnHour() {
        due.about("4 DIM: from HOUR a (0 to 11) on half");
        LightAlong x = lit("2 40 7 6", 20);
        for (int a = 0; a < 12; a++) {
            due.is("laying", x.laying(1, 4, a), 1);
            due.is("says its HOUR", x.says(1, 4), a);
            for (int hour = 0; hour < 12; hour++) {
                due.is("DIM from " + a + " at " + hour, x.light(1, 20, 0, hour), hour < a ? 10000 : 5000);
            }
        }
        due.is("HOUR -1", x.laying(1, 4, -1), -6);
        due.is("HOUR 12", x.laying(1, 4, 12), -6);
    }

    private static void dimIsCutForEachLamp() {
        due.about("4 DIM: cut, for each lamp");
        // Each gives 1000 / 109, that is 9.
        LightAlong x = laid("sort 10 1 0 1;place 20 0;place 20 0;place 20 0;place 20 0;shop 26 9 11;tree 22");
        x.lay(15, 0);
        x.laying(1, 4, 0);
        due.is("36 and the SHOP", x.light(0, 26, 0, 0), 45);
        due.is("4 times 4 and the SHOP", x.light(1, 26, 0, 0), 25);
        due.is("after the TREES: 4 times 6 / 2", x.light(1, 26, 3, 0), 21);
        due.is("2 / 2", x.light(1, 26, 5, 0), 13);
        due.is("a light of 1: none", lit("12 1 0 1", 0).light(0, 58, 0, 0), 1);
        x = lit("12 1 0 1", 0);
        x.laying(0, 4, 0);
        due.is("half of 1", x.light(0, 58, 0, 0), 0);
    }

    private static void there() {
        due.about("5 THERE: those that were there when it was made");
        LightAlong x = four();
        x.lay(3, 0);
        x.laying(1, 5, MAX);
        due.is("its PLACES", x.says(1, 5), 3);
        due.is("these burn", x.says(1, 2), 3);
        x.lay(15, 0);
        due.is("no new ones", x.says(1, 2), 3);
        x.lay(14, 0);
        due.is("those that are left", x.says(1, 2), 2);
        due.is("its PLACES stay", x.says(1, 5), 3);
        x.lay(0, 0);
        due.is("none is left", x.says(1, 0), 0);
        x.laying(1, 5, MIN);
        due.is("none when it was made", x.says(1, 5), 0);
        x.lay(15, 0);
        due.is("so none burns", x.says(1, 0), 0);
        x.laying(1, 5, 0);
        due.is("all when it was made anew", x.says(1, 5), 15);
        for (int p = 4; p < 9; p++) x.place(p, 0);
        x.lay(511, 0);
        due.is("new PLACES aside", x.says(1, 2), 15);
        x.laying(1, 5, 0);
        due.is("all nine", x.says(1, 5), 511);
    }

    private static void told() {
        due.about("6 TOLD: those of PLACES of a (bits), a 0 to 511");
        LightAlong x = four();
        for (int a : new int[] {0, 1, 8, 15, 16, 256, 510, 511}) {
            due.is("laying", x.laying(1, 6, a), 1);
            due.is("says its PLACES", x.says(1, 6), a);
            due.is("how many of " + a, x.says(1, 0), Integer.bitCount(a & 15));
        }
        due.is("-1", x.laying(1, 6, -1), -6);
        due.is("512", x.laying(1, 6, 512), -6);
        due.is("it stays", x.says(1, 6), 511);
        x.place(20, 0);
        x.lamp(4, 0);
        due.is("a PLACE that comes later", x.says(1, 0), 5);
        x.out(4, true);
        due.is("OUT ones aside", x.says(1, 0), 4);
    }

    // ---- SHOPS

    private static void shopsByHours() {
        due.about("LIGHT: of SHOPS whose HOUR is above that one");
        for (int till = 0; till < 12; till++) {
            LightAlong x = laid("shop 20 9 " + till);
            for (int hour = 0; hour < 12; hour++) {
                due.is("till " + till + " at " + hour, x.light(0, 20, 0, hour), hour < till ? 9 : 0);
            }
        }
    }

    private static void shopsAside() {
        due.about("1 YARD aside on that SIDE half of it, 2 a quarter, cut");
        int[][] lights = {{1, 0, 0}, {2, 1, 0}, {3, 1, 0}, {4, 2, 1}, {5, 2, 1}, {7, 3, 1}, {8, 4, 2}, {999, 499, 249}};
        for (int[] of : lights) {
            for (int side = 0; side < 2; side++) {
                LightAlong x = laid("shop " + (20 + side) + " " + of[0] + " 11");
                for (int yards = -4; yards <= 4; yards++) {
                    int far = Math.abs(yards);
                    int point = 20 + 2 * yards;
                    due.is(of[0] + " at " + yards, x.light(0, point + side, 0, 0), far < 3 ? of[far] : 0);
                    due.is("on the other SIDE", x.light(0, point + 1 - side, 0, 0), 0);
                }
            }
        }
        LightAlong x = laid("shop 20 3 1;shop 22 3 1;shop 24 7 1");
        due.is("each is cut", x.light(0, 20, 0, 0), 3 + 1 + 1);
    }

    private static void shopsAtTheEnds() {
        due.about("SHOPS at both ends of the street");
        for (int shop : new int[] {0, 1, 118, 119}) {
            LightAlong x = laid("shop " + shop + " 8 1");
            int lit = 0;
            for (int point = 0; point < 120; point++) lit += x.light(0, point, 0, 0);
            due.is("light of all POINTS", lit, 8 + 4 + 2);
            due.is("1 YARD aside", x.light(0, shop < 2 ? shop + 2 : shop - 2, 0, 0), 4);
            due.is("2 YARDS aside", x.light(0, shop < 2 ? shop + 4 : shop - 4, 0, 0), 2);
        }
    }

    private static void shopsWhateverElse() {
        due.about("SHOPS give light whatever the LAYING, TREES, WALLS and MONTH");
        LightAlong x = Streets.along("shop 20 8 11;tree 22;wall 22;tree 20;wall 20");
        for (int kind = 0; kind < 7; kind++) {
            x.laying(kind, kind, 0);
            due.is("light by " + kind, x.light(kind, 24, 6, 10), 2);
            due.is("no face by " + kind, x.face(kind, 18, 6, 10), 0);
            due.is("no shade by " + kind, x.shade(kind, 20, 6), -1);
        }
    }

    private static void pointsBeyondLong() {
        due.about("LIGHT and FACE are told of all POINTS, LONG or not");
        LightAlong x = lit("12 99 0 1", 118);
        x.ask(3, 1);
        due.is("light at the end", x.light(0, 118, 0, 0), 687);
        due.is("light ahead of it", x.light(0, 116, 0, 0), 682);
        due.is("face", x.face(0, 116, 0, 0), 341);
        due.is("shade", x.shade(0, 117, 0), 0);
    }

    // ---- FACE

    private static void faceAhead() {
        due.about("FACE: of lamps at greater YARDS alone");
        for (int lamp = 8; lamp < 14; lamp++) {
            LightAlong x = lit("2 40 0 1", lamp);
            x.ask(2, 1);
            for (int point = 8; point < 14; point++) {
                int between = lamp / 2 - point / 2;
                int square = 4 + between * between + (lamp % 2 == point % 2 ? 0 : 1);
                int face = between > 0 ? 40000 / square / 2 : 0;
                due.is("lamp at " + lamp + ", face at " + point, x.face(0, point, 0, 0), face);
            }
        }
        LightAlong x = laid("shop 22 900 11");
        due.is("SHOPS aside", x.face(0, 20, 0, 0), 0);
    }

    private static void faceCutsEach() {
        due.about("FACE: each half (cut)");
        // Each gives 1000 / 37, that is 27.
        LightAlong x = laid("sort 6 1 0 1;place 22 0;place 22 0;place 22 0");
        x.lay(7, 0);
        due.is("13 three times", x.face(0, 20, 0, 0), 39);
        due.is("27 three times", x.light(0, 20, 0, 0), 81);
        x.laying(0, 4, 0);
        due.is("half of half: 6 three times", x.face(0, 20, 0, 0), 18);
        x.laying(0, 4, 5);
        due.is("before the HOUR", x.face(0, 20, 0, 4), 39);
        due.is("from the HOUR on", x.face(0, 20, 0, 5), 18);
        x.laying(0, 6, 2);
        due.is("those that burn", x.face(0, 20, 0, 0), 13);
        due.is("half of 1", lit("12 1 0 1", 58).face(0, 0, 0, 0), 0);
    }

    private static void faceAtTheEnds() {
        due.about("FACE at both ends of the street");
        LightAlong x = laid("sort 12 99 0 1;place 0 0;place 118 0");
        x.lay(3, 0);
        due.is("at the first YARD, of the last", x.face(0, 0, 0, 0), 13);
        due.is("at the last YARD, of none", x.face(0, 118, 0, 0), 0);
        due.is("at the last YARD, the other SIDE", x.face(0, 119, 0, 0), 0);
    }

    // ---- WELL or FAULTY

    private static void leastJustSo() {
        due.about("1 LIGHT is LEAST at least");
        LightAlong x = laid("long 1;even 99;shop 0 20 1;shop 1 20 1");
        x.ask(0, 20);
        rule(x, "just so", 0, -1);
        x.ask(0, 21);
        rule(x, "one more", 1, 0);
        x.shop(0, 1, 1);
        rule(x, "the other POINT", 1, 1);
        x.shop(1, 1, 1);
        rule(x, "both", 0, -1);
        x.ask(0, 0);
        rule(x, "LEAST 0", 0, -1);
        x = laid("long 1;even 99;least 0");
        rule(x, "no light at all", 0, -1);
        x.ask(0, 1);
        rule(x, "no light at all", 1, 0);
        x = laid("long 1;even 99;least 999;shop 0 999 1;shop 1 998 1");
        rule(x, "998 for 999", 1, 1);
    }

    private static void leastAtFirst() {
        due.about("LEAST is 20 at first");
        rule(laid("long 1;shop 0 20 1;shop 1 20 1"), "20", 0, -1);
        rule(laid("long 1;shop 0 20 1;shop 1 19 1"), "19", 1, 1);
    }

    private static void poolJustSo() {
        due.about("2 at a POOL it is 5 at most");
        rule(laid("long 1;least 1;even 99;pool 0;shop 0 5 1;shop 1 9 1"), "5", 0, -1);
        rule(laid("long 1;least 1;even 99;pool 0;shop 0 6 1;shop 1 9 1"), "6", 2, 0);
        rule(laid("long 1;least 1;even 99;pool 0;shop 1 9 1"), "0", 0, -1);
        rule(laid("long 1;least 1;even 99;pool 1;shop 0 9 1;shop 1 5 1"), "5 at the last", 0, -1);
        rule(laid("long 1;least 1;even 99;pool 1;shop 0 9 1;shop 1 6 1"), "6 at the last", 2, 1);
        rule(laid("long 1;least 1;even 99;pool 1;pool 0;shop 0 6 1;shop 1 6 1"), "both, by numbers", 2, 0);
        rule(laid("long 1;least 1;even 99;pool 1;pool 1;shop 0 9 1;shop 1 6 1"), "two POOLS there", 2, 1);
    }

    private static void poolsAsideForLeast() {
        due.about("1 LIGHT is LEAST at least (POOLS aside)");
        LightAlong x = laid("long 1;least 9;even 99;shop 0 9 1");
        rule(x, "no POOL", 1, 1);
        x.stand(2, 1);
        rule(x, "a POOL", 0, -1);
        x = laid("long 2;least 9;even 99;shop 0 20 1;pool 1");
        rule(x, "the next that is too dark", 1, 3);
    }

    private static void evenJustSo() {
        due.about("3 EVEN times the least LIGHT is no less than the greatest");
        LightAlong x = laid("long 1;least 1;even 3;shop 0 20 1;shop 1 60 1");
        rule(x, "3 times 20 is 60", 0, -1);
        x.shop(1, 1, 1);
        rule(x, "61", 3, 0);
        x.ask(1, 4);
        rule(x, "EVEN 4", 0, -1);
        x = laid("long 1;least 1;even 1;shop 0 7 1;shop 1 7 1");
        rule(x, "EVEN 1, alike", 0, -1);
        x.shop(0, 1, 1);
        rule(x, "EVEN 1, not alike", 3, 1);
        rule(laid("long 1;least 1;even 99;shop 0 1 1;shop 1 99 1"), "EVEN 99", 0, -1);
        rule(laid("long 1;least 1;even 99;shop 0 1 1;shop 1 100 1"), "EVEN 99, 100", 3, 0);
        rule(laid("long 1;least 0;even 99;shop 1 1 1"), "99 times 0", 3, 0);
        rule(laid("long 1;least 0;even 1"), "0 is no less than 0", 0, -1);
    }

    private static void evenAtFirst() {
        due.about("EVEN is 8 at first");
        rule(laid("long 1;shop 0 20 1;shop 1 160 1"), "160", 0, -1);
        rule(laid("long 1;shop 0 20 1;shop 1 161 1"), "161", 3, 0);
    }

    private static void poolsAsideForEven() {
        due.about("3 EVEN times the least LIGHT (POOLS aside)");
        // LIGHT at 0 to 3: 20, 10, 10, 5.
        LightAlong x = laid("long 2;least 1;even 2;shop 0 20 1;shop 1 10 1");
        rule(x, "no POOL", 3, 3);
        x.stand(2, 3);
        rule(x, "a POOL", 0, -1);
        x.ask(1, 1);
        rule(x, "the least that is no POOL", 3, 1);
    }

    private static void firstOfTheLeast() {
        due.about("24 of EVEN the first of the least LIGHT");
        // LIGHT at 0 to 3: 20, 20, 10, 10.
        rule(laid("long 2;least 1;even 1;shop 0 20 1;shop 1 20 1"), "of two the first", 3, 2);
        // LIGHT at 0 to 3: 10, 20, 20, 10.
        rule(laid("long 2;least 1;even 1;shop 1 20 1;shop 2 20 1"), "the first of all", 3, 0);
    }

    private static void windowJustSo() {
        due.about("4 at each WINDOW it is no more than its BAR");
        String base = "long 1;least 0;even 99;shop 0 20 1;shop 1 20 1;";
        rule(laid(base + "window 0 20"), "20", 0, -1);
        rule(laid(base + "window 0 19"), "19", 4, 0);
        rule(laid(base + "window 1 19"), "at the last POINT", 4, 1);
        rule(laid(base + "window 0 0"), "BAR 0", 4, 0);
        rule(laid("long 1;least 0;window 0 0;window 1 0"), "BAR 0 in the dark", 0, -1);
        rule(laid("long 1;least 0;shop 0 999 1;shop 1 999 1;window 0 999"), "999", 0, -1);
        rule(laid("long 1;least 0;shop 0 999 1;shop 1 999 1;shop 0 1 1;window 0 999"), "1000", 4, 0);
        rule(laid(base + "window 0 20;window 0 20;window 0 19"), "the third there", 4, 0);
    }

    private static void firstWindow() {
        due.about("24 of WINDOWS: of the first that is too bright");
        String base = "long 1;least 0;even 99;shop 0 20 1;shop 1 20 1;";
        rule(laid(base + "window 1 9;window 0 9"), "by the WINDOWS' numbers", 4, 1);
        rule(laid(base + "window 1 20;window 0 19"), "the second is", 4, 0);
        rule(laid(base + "window 2 0;window 1 19;window 0 9"), "the first is beyond LONG", 4, 1);
    }

    private static void firstRuleThatDoesNotHold() {
        due.about("FAULTY by the first that doesn't");
        // LIGHT at 0 to 3: 20, 8, 10, 4.
        String base = "long 2;shop 0 20 1;shop 1 8 1;even 1;window 0 0;pool 2;least ";
        rule(laid(base + "5"), "1 beside 2, 3, 4", 1, 3);
        rule(laid(base + "4"), "2 beside 3, 4", 2, 2);
        LightAlong x = laid(base + "4");
        x.ask(3, 1);
        rule(x, "3 beside 4", 3, 1);
        x.ask(1, 3);
        rule(x, "4", 4, 0);
        x.ask(0, 9);
        rule(x, "1 beside 4", 1, 1);
        x.ask(1, 1);
        rule(x, "1 beside 3, 4", 1, 1);
        x = laid("long 2;shop 0 20 1;shop 1 8 1;even 99;pool 2;least 5");
        rule(x, "1 beside 2", 1, 3);
        x.ask(0, 4);
        x.window(0, 0);
        rule(x, "2 beside 4", 2, 2);
    }

    private static void nothingMustBeLight() {
        due.about("all POINTS are POOLS");
        LightAlong x = laid("long 1;least 999;even 1;pool 0;pool 1;window 0 0");
        rule(x, "nothing must be light", 0, -1);
        due.about("a WINDOW at a POOL");
        rule(laid("long 1;least 5;even 1;pool 0;shop 0 5 1;shop 1 5 1;window 0 5"), "just so", 0, -1);
        rule(laid("long 1;least 5;even 1;pool 0;shop 0 5 1;shop 1 5 1;window 0 4"), "too bright", 4, 0);
        rule(laid("long 1;least 5;even 1;pool 0;shop 0 6 1;shop 1 5 1;window 0 4"), "a POOL that isn't dark", 2, 0);
    }

    private static void rulesByHours() {
        due.about("faulty and dark in a MONTH and an HOUR");
        LightAlong x = laid("long 1;least 9;even 99;shop 0 9 5;shop 1 9 11");
        for (int hour = 0; hour < 12; hour++) {
            ruleAt(x, hour, "hour " + hour, hour < 5 ? 0 : 1, hour < 5 ? -1 : 0);
        }
        x = Streets.along("long 3;least 126;even 99;wide 1;sort 2 4 0 1;place 0 0;tree 2");
        x.lamp(0, 0);
        x.laying(0, 0, 0);
        // At YARD 2 500, by LEAVES 1 to 3 375, 250 and 125; across 444, 333, 222 and 111.
        int[] rules = {0, 0, 0, 0, 0, 1, 1, 1, 0, 0, 0, 0};
        for (int month = 0; month < 12; month++) {
            due.is("month " + month, x.faulty(0, month, 0), rules[month]);
            due.is("dark in month " + month, x.dark(0, month, 0), rules[month] == 0 ? -1 : 4);
        }
        x.laying(0, 4, 6);
        due.is("DIM, the HOUR before", x.faulty(0, 4, 5), 0);
        due.is("DIM, the HOUR", x.faulty(0, 4, 6), 1);
        due.is("DIM, the POINT", x.dark(0, 4, 6), 4);
    }

    // ---- LONG

    /** 27 at least at each POINT, 687 at most. */
    private static LightAlong bright(int kind, int point) {
        LightAlong x = Streets.along("sort 12 99 0 1;place 0 0;wide 1;even 99");
        x.lamp(0, 0);
        x.laying(0, 0, 0);
        if (kind < 3) x.stand(kind, point);
        else x.window(point, 0);
        return x;
    }

    private static void longForRules() {
        due.about("LONG: YARDS 0 to LONG less 1 count");
        for (int yards : new int[] {2, 3, 10, 39, 58, 59}) {
            LightAlong x = bright(1, 2 * yards - 2);
            x.ask(3, yards);
            rule(x, "1, the dark YARD is " + yards, 0, -1);
            x.ask(3, yards + 1);
            rule(x, "1, and counts", 1, 2 * yards);
            x.ask(3, yards);
            rule(x, "1, and doesn't again", 0, -1);
        }
        for (int yards : new int[] {1, 2, 10, 39, 58, 59}) {
            for (int side = 0; side < 2; side++) {
                LightAlong x = bright(2, 2 * yards + side);
                x.ask(3, yards);
                rule(x, "2, the POOL's YARD is " + yards, 0, -1);
                x.ask(3, yards + 1);
                rule(x, "2, and counts", 2, 2 * yards + side);
                x.ask(3, yards);
                rule(x, "2, and doesn't again", 0, -1);
                x = bright(3, 2 * yards + side);
                x.ask(3, yards);
                rule(x, "4, the WINDOW's YARD is " + yards, 0, -1);
                x.ask(3, yards + 1);
                rule(x, "4, and counts", 4, 2 * yards + side);
                x.ask(3, yards);
                rule(x, "4, and doesn't again", 0, -1);
            }
        }
        LightAlong x = bright(0, 0);
        x.ask(1, 2);
        x.ask(3, 12);
        // At YARD 0 687; across at YARDS 11 and 12 372 and 342.
        rule(x, "3, 2 times 372", 0, -1);
        x.ask(3, 13);
        rule(x, "3, 2 times 342", 3, 25);
    }

    private static void longAtFirst() {
        due.about("LONG is 40 at first");
        rule(bright(1, 78), "1, YARD 40", 0, -1);
        rule(bright(1, 76), "1, YARD 39", 1, 78);
        rule(bright(2, 80), "2, YARD 40", 0, -1);
        rule(bright(2, 79), "2, YARD 39", 2, 79);
        rule(bright(3, 80), "4, YARD 40", 0, -1);
        rule(bright(3, 79), "4, YARD 39", 4, 79);
    }

    private static void longOfOneAndOfSixty() {
        due.about("LONG 1 and LONG 60");
        LightAlong x = laid("long 1;least 9;shop 0 9 1;shop 1 9 1");
        rule(x, "YARD 0 alone", 0, -1);
        x.ask(3, 2);
        rule(x, "YARD 1 counts", 1, 2);
        x = bright(1, 118);
        x.ask(3, 60);
        rule(x, "all 60", 0, -1);
        x.window(119, 26);
        rule(x, "the last POINT", 4, 119);
        x.stand(2, 119);
        rule(x, "the last POINT", 2, 119);
    }
}
