/** Each promise by itself: ordinary inputs, the edges that the document names, and wrong inputs. */
public final class PromisesTest {
    private static final Due due = new Due();
    private static final int MAX = Integer.MAX_VALUE;
    private static final int MIN = Integer.MIN_VALUE;

    private PromisesTest() {
    }

    public static void main(String[] args) {
        newObject();
        rows();
        copies();
        layings();
        saysWhat();
        pieces();
        asks();
        streets();
        faults();
        faultsOfNumbers();
        faultsOfRoom();
        lamps();
        lightOfOneLamp();
        treesAndWalls();
        lightOfShops();
        lightByKinds();
        turns();
        faces();
        refusalsOfLight();
        wellOrFaulty();
        edgesOfRules();
        chosen();
        chosenAmongEquals();
        chosenByAllRules();
        firmOnes();
        bounds();
        reaches();
        worsts();
        shades();
        spills();
        dims();
        bulbs();
        moves();
        judges();
        acts();
        images();
        statuses();
        due.end();
    }

    // ---- help

    /** street() of a text on a new object: the answer and the FAULT. */
    private static void text(String text, int answer, int fault) {
        LightAlong x = new LightAlong();
        letters(x, 0, 2, text);
        due.is("street \"" + text + "\"", x.street(0), answer);
        due.is("fault of \"" + text + "\"", x.fault(), fault);
    }

    private static void fault(String text, int fault) {
        text(text, -6, fault);
    }

    private static void letters(LightAlong x, int shelf, int sort, String text) {
        Streets.letters(x, shelf, sort, text);
    }

    private static LightAlong along(String text) {
        return Streets.along(text);
    }

    private static void add(LightAlong x, String text) {
        Streets.add(x, text);
    }

    private static void refused(LightAlong x, int number, int times) {
        due.is("refusals " + number, x.status(10 - number), times);
    }

    // ---- promises

    private static void newObject() {
        due.about("1");
        LightAlong x = new LightAlong();
        due.is("NONE", LightAlong.NONE, -1);
        for (int what = 0; what <= 9; what++) due.is("status " + what, x.status(what), 0);
        for (int what = 11; what <= 17; what++) due.is("status " + what, x.status(what), 0);
        for (int s = 0; s < 8; s++) due.is("holds " + s, x.holds(s), -1);
        due.is("fault", x.fault(), -1);
        due.is("trace", x.trace(0), -1);
        due.is("LEAST", x.ask(0, 1), 20);
        due.is("EVEN", x.ask(1, 1), 8);
        due.is("WIDE", x.ask(2, 1), 6);
        due.is("LONG", x.ask(3, 1), 40);
        due.is("restore", x.restore(), -6);
        due.is("worst", x.worst(), 0);
        due.is("bulbs", x.bulbs(240, true), 0);
        due.is("bulbs", x.bulbs(240, false), 0);
    }

    private static void rows() {
        due.about("2");
        LightAlong x = new LightAlong();
        due.is("row", x.row(0, 0, 0), 1);
        due.is("row", x.row(7, 3, 120), 1);
        due.is("holds", x.holds(0), 100);
        due.is("holds", x.holds(7), 103);
        due.is("shelf first", x.row(8, 4, -1), -1);
        due.is("shelf below 0", x.row(-1, 0, 1), -1);
        due.is("size before sort", x.row(0, 4, -1), -4);
        due.is("sort before room", x.row(0, 4, 121), -6);
        due.is("sort below 0", x.row(0, -1, 1), -6);
        due.is("room", x.row(0, 3, 121), -7);
        due.is("room", x.row(0, 3, MAX), -7);
        due.is("size", x.row(0, 3, MIN), -4);
        due.is("unchanged", x.holds(0), 100);
        x.set(7, 119, 5);
        due.is("element", x.element(7, 119), 5);
        due.is("behind the last", x.element(7, 120), 0);
        due.is("none in an empty row", x.set(0, 0, 1), -5);
        x.row(7, 3, 120);
        due.is("a new row is 0", x.element(7, 119), 0);
        x.laying(7, 0, 0);
        due.is("row over a laying", x.row(7, 1, 3), 1);
        due.is("holds", x.holds(7), 101);

        due.about("3");
        x = new LightAlong();
        for (int sort = 0; sort < 4; sort++) x.row(sort, sort, 2);
        long big = 0x123456789ABCDEF0L;
        for (int sort = 0; sort < 4; sort++) due.is("set", x.set(sort, 1, big), 1);
        due.is("byte", x.element(0, 1), (byte) 0xF0);
        due.is("short", x.element(1, 1), (short) 0xDEF0);
        due.is("int", x.element(2, 1), 0x9ABCDEF0);
        due.is("long", x.element(3, 1), big);
        due.is("others stay", x.element(3, 0), 0);
        x.laying(4, 0, 0);
        due.is("shelf", x.set(8, 0, 1), -1);
        due.is("shelf", x.set(-1, 0, 1), -1);
        due.is("laying before element", x.set(4, -1, 1), -2);
        due.is("nothing before element", x.set(5, -1, 1), -3);
        due.is("i below", x.set(0, -1, 1), -5);
        due.is("i above", x.set(0, 2, 1), -5);
        due.is("i far", x.set(0, MAX, 1), -5);
        due.is("i far", x.set(0, MIN, 1), -5);

        due.about("5");
        due.is("no such shelf", x.element(8, 0), 0);
        due.is("no such shelf", x.element(-1, 0), 0);
        due.is("laying", x.element(4, 0), 0);
        due.is("nothing", x.element(5, 0), 0);
        due.is("beyond", x.element(0, 2), 0);
        due.is("below", x.element(0, MIN), 0);
        x.row(3, 3, 1);
        due.is("behind a shorter row", x.element(3, 1), 0);
        refused(x, -5, 4);
    }

    private static void copies() {
        due.about("4");
        LightAlong x = new LightAlong();
        x.row(0, 1, 6);
        for (int i = 0; i < 6; i++) x.set(0, i, 10 + i);
        due.is("up", x.copy(0, 0, 0, 2, 4), 1);
        int[] up = {10, 11, 10, 11, 12, 13};
        for (int i = 0; i < 6; i++) due.is("up " + i, x.element(0, i), up[i]);
        due.is("down", x.copy(0, 0, 2, 1, 4), 1);
        int[] down = {10, 10, 11, 12, 13, 13};
        for (int i = 0; i < 6; i++) due.is("down " + i, x.element(0, i), down[i]);
        x.row(1, 1, 3);
        due.is("other", x.copy(0, 1, 3, 0, 3), 1);
        due.is("element", x.element(1, 0), 12);
        due.is("element", x.element(1, 2), 13);
        due.is("none at the end", x.copy(0, 1, 6, 3, 0), 1);
        x.row(2, 0, 6);
        x.laying(3, 0, 0);
        due.is("shelf", x.copy(8, 3, 0, 0, -1), -1);
        due.is("shelf", x.copy(3, -1, 0, 0, -1), -1);
        due.is("laying to nothing", x.copy(3, 4, 0, 0, -1), -2);
        due.is("nothing to laying", x.copy(4, 3, 0, 0, -1), -2);
        due.is("row to laying", x.copy(0, 3, 0, 0, -1), -2);
        due.is("two sorts", x.copy(0, 2, 0, 0, -1), -2);
        due.is("from nothing", x.copy(4, 0, 0, 0, -1), -3);
        due.is("to nothing", x.copy(0, 4, 0, 0, -1), -3);
        due.is("n before i", x.copy(0, 1, -1, 0, -1), -4);
        due.is("i", x.copy(0, 1, -1, 0, 0), -5);
        due.is("j", x.copy(0, 1, 0, -1, 0), -5);
        due.is("end of i", x.copy(0, 1, 4, 0, 3), -5);
        due.is("end of j", x.copy(0, 1, 0, 1, 3), -5);
        due.is("i behind, none", x.copy(0, 1, 7, 0, 0), -5);
        due.is("j behind, none", x.copy(0, 1, 0, 4, 0), -5);
        due.is("far", x.copy(0, 1, MAX, MAX, MAX), -5);
        due.is("far", x.copy(0, 1, 1, 1, MAX), -5);
        due.is("unchanged", x.element(1, 0), 12);
    }

    private static void layings() {
        due.about("6");
        LightAlong x = new LightAlong();
        for (int kind = 0; kind <= 6; kind++) {
            due.is("laying", x.laying(kind, kind, 1), 1);
            due.is("holds", x.holds(kind), kind);
        }
        due.is("shelf", x.laying(8, 0, 0), -1);
        due.is("shelf", x.laying(-1, -1, 0), -1);
        due.is("kind", x.laying(0, 7, 99), -1);
        due.is("kind", x.laying(0, -2, 99), -1);
        int[][] mayBe = {{1, 0, 1}, {3, 0, 1}, {4, 0, 11}, {6, 0, 511}};
        for (int[] m : mayBe) {
            due.is("lowest of " + m[0], x.laying(0, m[0], m[1]), 1);
            due.is("highest of " + m[0], x.laying(0, m[0], m[2]), 1);
            due.is("below of " + m[0], x.laying(0, m[0], m[1] - 1), -6);
            due.is("above of " + m[0], x.laying(0, m[0], m[2] + 1), -6);
        }
        for (int kind : new int[] {0, 2, 5}) due.is("any a", x.laying(1, kind, MIN), 1);
        due.is("nothing", x.laying(1, -1, MIN), 0);
        due.about("7");
        due.is("holds", x.holds(1), -1);
        due.is("holds", x.holds(0), 6);
        due.is("holds", x.holds(-1), -1);
        due.is("holds", x.holds(8), -1);
        x.row(1, 2, 0);
        due.is("holds", x.holds(1), 102);
        refused(x, -1, 4);
        refused(x, -6, 8);
    }

    private static void saysWhat() {
        due.about("8");
        LightAlong x = along("sort 2 40 7 6;place 0 3;place 3 5;place 8 4;place 9 1");
        for (int p = 0; p < 4; p++) x.lamp(p, 0);
        x.out(1, true);
        x.laying(0, 0, 1);
        x.laying(1, 1, 1);
        x.laying(2, 2, 1);
        x.laying(3, 3, 1);
        x.laying(4, 4, 9);
        x.laying(5, 5, 1);
        x.laying(6, 6, 262);
        int[] burn = {3, 1, 3, 1, 3, 3, 1};
        for (int s = 0; s < 7; s++) due.is("burn " + s, x.says(s, 0), burn[s]);
        due.is("ONE", x.says(1, 1), 1);
        due.is("BOTH", x.says(2, 2), 13);
        due.is("TURN as BOTH", x.says(3, 2), 8);
        due.is("TURN", x.says(3, 3), 1);
        due.is("DIM", x.says(4, 4), 9);
        due.is("THERE as BOTH", x.says(5, 2), 13);
        due.is("THERE", x.says(5, 5), 15);
        due.is("TOLD", x.says(6, 6), 262);
        x.lamp(0, -1);
        x.out(1, false);
        due.is("THERE stays", x.says(5, 5), 15);
        due.is("THERE burns", x.says(5, 2), 14);
        x.laying(5, 5, 0);
        due.is("THERE anew", x.says(5, 5), 14);
        x.lamp(0, 0);
        due.is("not there then", x.says(5, 2), 14);
        int[][] other = {{0, 1}, {0, 2}, {0, 6}, {1, 2}, {2, 3}, {2, 5}, {3, 5}, {4, 2}, {6, 2}, {5, 3}, {1, 6}};
        for (int[] o : other) due.is("other " + o[0] + " " + o[1], x.says(o[0], o[1]), -2);
        due.is("kind", x.says(7, 7), -1);
        due.is("kind", x.says(7, -1), -1);
        due.is("shelf", x.says(8, 0), -1);
        due.is("nothing", x.says(7, 1), -3);
        x.row(7, 0, 0);
        due.is("row", x.says(7, 0), -2);
    }

    private static void pieces() {
        due.about("9");
        LightAlong x = new LightAlong();
        int[][] wrong = {{0, 1, 1, 1}, {13, 1, 1, 1}, {1, 0, 1, 1}, {1, 100, 1, 1}, {1, 1, -1, 1}, {1, 1, 100, 1},
            {1, 1, 1, 0}, {1, 1, 1, 100}, {MIN, 1, 1, 1}, {1, 1, 1, MAX}};
        for (int[] w : wrong) due.is("wrong", x.sort(w[0], w[1], w[2], w[3]), -6);
        due.is("least", x.sort(1, 1, 0, 1), 0);
        due.is("most", x.sort(12, 99, 99, 99), 1);
        for (int i = 2; i < 6; i++) due.is("sort", x.sort(2, 3, 4, 5), i);
        due.is("wrong before room", x.sort(0, 3, 4, 5), -6);
        due.is("room", x.sort(2, 3, 4, 5), -7);
        due.about("17");
        for (int what = 0; what < 4; what++) due.is("sortOf", x.sortOf(5, what), 2 + what);
        due.is("sortOf", x.sortOf(6, 0), -5);
        due.is("sortOf", x.sortOf(-1, 0), -5);
        due.is("sortOf", x.sortOf(0, 4), -5);
        due.is("sortOf", x.sortOf(0, -1), -5);
        due.is("sortOf", x.sortOf(9, 9), -5);

        due.about("10");
        due.is("point", x.place(120, 100), -1);
        due.is("point", x.place(-1, 0), -1);
        due.is("wire", x.place(0, 100), -6);
        due.is("wire", x.place(0, -1), -6);
        for (int i = 0; i < 9; i++) due.is("place", x.place(i == 0 ? 0 : 119, i == 0 ? 0 : 99), i);
        due.is("wrong before room", x.place(0, 100), -6);
        due.is("room", x.place(0, 0), -7);
        due.about("18");
        due.is("POINT", x.placeOf(8, 0), 119);
        due.is("WIRE", x.placeOf(8, 1), 99);
        due.is("free", x.placeOf(8, 2), -1);
        due.is("not OUT", x.placeOf(8, 3), 0);
        x.lamp(8, 4);
        x.out(8, true);
        due.is("SORT", x.placeOf(8, 2), 4);
        due.is("OUT", x.placeOf(8, 3), 1);
        due.is("placeOf", x.placeOf(9, 0), -5);
        due.is("placeOf", x.placeOf(-1, 0), -5);
        due.is("placeOf", x.placeOf(0, 4), -5);
        due.is("placeOf", x.placeOf(0, -1), -5);

        due.about("11");
        due.is("kind", x.stand(3, 0), -1);
        due.is("kind", x.stand(-1, 0), -1);
        due.is("point", x.stand(0, 120), -1);
        due.is("point", x.stand(0, -1), -1);
        int[] most = {12, 12, 6};
        for (int kind = 0; kind < 3; kind++) {
            for (int i = 1; i <= most[kind]; i++) due.is("stand", x.stand(kind, 119), i);
            due.is("point before room", x.stand(kind, 120), -1);
            due.is("room", x.stand(kind, 0), -7);
        }
        due.is("TREES", x.status(4), 12);
        due.is("WALLS", x.status(5), 12);
        due.is("POOLS", x.status(8), 6);

        due.about("12");
        due.is("point", x.window(120, 1000), -1);
        due.is("bar", x.window(0, 1000), -6);
        due.is("bar", x.window(0, -1), -6);
        for (int i = 1; i <= 12; i++) due.is("window", x.window(119, i == 1 ? 0 : 999), i);
        due.is("wrong before room", x.window(0, 1000), -6);
        due.is("room", x.window(0, 0), -7);

        due.about("13");
        due.is("point", x.shop(-1, 0, 0), -1);
        due.is("light", x.shop(0, 0, 0), -6);
        due.is("light", x.shop(0, 1000, 0), -6);
        due.is("hour", x.shop(0, 1, 12), -6);
        due.is("hour", x.shop(0, 1, -1), -6);
        for (int i = 0; i < 8; i++) due.is("shop", x.shop(119, i == 0 ? 1 : 999, i == 0 ? 0 : 11), i);
        due.is("wrong before room", x.shop(0, 0, 0), -6);
        due.is("room", x.shop(0, 1, 0), -7);
        refused(x, -7, 7);
    }

    private static void asks() {
        due.about("14");
        LightAlong x = new LightAlong();
        int[] low = {0, 1, 1, 1};
        int[] high = {999, 99, 12, 60};
        int[] was = {20, 8, 6, 40};
        for (int what = 0; what < 4; what++) {
            due.is("ask", x.ask(what, high[what]), was[what]);
            due.is("above", x.ask(what, high[what] + 1), -6);
            due.is("below", x.ask(what, low[what] - 1), -6);
            due.is("ask", x.ask(what, low[what]), high[what]);
            due.is("far", x.ask(what, MAX), -6);
            due.is("far", x.ask(what, MIN), -6);
            due.is("ask", x.ask(what, low[what]), low[what]);
        }
        due.is("what", x.ask(4, 1), -6);
        due.is("what", x.ask(-1, 1), -6);
        due.is("what", x.ask(MAX, 1), -6);
    }

    private static void streets() {
        due.about("15");
        LightAlong x = new LightAlong();
        letters(x, 0, 3, "least 9;even 99;wide 12;long 60;sort 12 99 0 99;place 119 99;tree 0;wall 119;window 1 999");
        due.is("street", x.street(0), 9);
        letters(x, 0, 1, "shop 7 999 11;pool 5;place 001 7;tree 1;least 0");
        due.is("street", x.street(0), 5);
        int[] counts = {1, 2, 0, 0, 2, 1, 1, 1, 1};
        for (int what = 0; what < 9; what++) due.is("status " + what, x.status(what), counts[what]);
        due.is("LEAST", x.ask(0, 0), 0);
        due.is("EVEN", x.ask(1, 1), 99);
        due.is("WIDE", x.ask(2, 1), 12);
        due.is("LONG", x.ask(3, 1), 60);
        int[] sort = {12, 99, 0, 99};
        for (int what = 0; what < 4; what++) due.is("sortOf", x.sortOf(0, what), sort[what]);
        int[] place = {1, 7, -1, 0};
        for (int what = 0; what < 4; what++) due.is("placeOf", x.placeOf(1, what), place[what]);
        due.is("shelf", x.street(8), -1);
        due.is("shelf", x.street(-1), -1);
        x.laying(1, 0, 0);
        due.is("laying", x.street(1), -2);
        due.is("nothing", x.street(2), -3);
        due.is("the last of two counts", along("long 5;long 7").ask(3, 1), 7);

        due.about("15 all or nothing");
        String all = "least 3;sort 1 1 1 1;place 0 0;tree 0;wall 0;window 0 0;shop 0 1 0;pool 0;";
        letters(x, 0, 0, all + "pool 120");
        due.is("street", x.street(0), -6);
        due.is("fault", x.fault(), all.length() + 5);
        for (int what = 0; what < 9; what++) due.is("status " + what, x.status(what), counts[what]);
        due.is("LEAST", x.ask(0, 0), 0);

        due.about("16");
        due.is("kept over another shelf", x.street(2), -3);
        due.is("fault", x.fault(), all.length() + 5);
        due.is("kept over a laying", x.street(1), -2);
        due.is("fault", x.fault(), all.length() + 5);
        letters(x, 0, 0, "wide 3");
        due.is("street", x.street(0), 1);
        due.is("fault", x.fault(), -1);

        due.about("15 elements as ints");
        letters(x, 0, 3, "wide 4");
        x.set(0, 0, (1L << 32) + 'w');
        due.is("street", x.street(0), 1);
        due.is("WIDE", x.ask(2, 1), 4);
        x.set(0, 5, (1L << 16) + '4');
        due.is("street", x.street(0), -6);
        due.is("fault", x.fault(), 5);
    }

    private static void faults() {
        due.about("16 letters");
        fault("", 0);
        fault(";", 0);
        fault(" tree 1", 0);
        fault("Tree 1", 0);
        fault("x", 0);
        fault("t", 1);
        fault("tre", 3);
        fault("trea 1", 3);
        fault("tree", 4);
        fault("treex", 4);
        fault("tree;", 4);
        fault("tree ", 5);
        fault("tree  1", 5);
        fault("tree x", 5);
        fault("tree -1", 5);
        text("tree 1", 1, -1);
        text("tree 001", 1, -1);
        fault("tree 0001", 8);
        fault("tree 1 ", 6);
        fault("tree 1x", 6);
        fault("tree 1;", 7);
        fault("tree 1; tree 2", 7);
        fault("tree 1;;", 7);
        fault("tree 1 2", 6);
        fault("place 1", 7);
        fault("place 1;", 7);
        fault("place 1 ", 8);
        fault("place 1  2", 8);
        fault("window 1 2 3", 10);
        fault("shop 1 2", 8);
        fault("sort 1 2 3", 10);
        text("sort 1 2 3 4", 1, -1);
        fault("sort 1 2 3 4 5", 12);
        fault("wimdow", 2);
        fault("widow 1", 3);
        fault("wind 1", 4);
        fault("waal", 2);
        fault("shot", 3);
        fault("sorp", 3);
        fault("soop", 2);
        fault("poll", 2);
        fault("poox", 3);
        fault("plaice", 3);
        fault("least 1;evan 2", 10);
        fault("lest", 2);
        fault("lont", 3);
        fault("l", 1);
        String[] words = {"least", "even", "wide", "long", "sort", "place", "tree", "wall", "window", "shop", "pool"};
        for (String word : words) {
            for (int n = 0; n <= word.length(); n++) fault(word.substring(0, n), n);
            fault(word + "s", word.length());
        }
    }

    private static void faultsOfNumbers() {
        due.about("16 numbers");
        String[] items = {"least ", "even ", "wide ", "long ", "sort ", "sort 1 ", "sort 1 1 ", "sort 1 1 1 ", "place ",
            "place 0 ", "tree ", "wall ", "window ", "window 0 ", "shop ", "shop 0 ", "shop 0 1 ", "pool "};
        int[] low = {0, 1, 1, 1, 1, 1, 0, 1, 0, 0, 0, 0, 0, 0, 0, 1, 0, 0};
        int[] high = {999, 99, 12, 60, 12, 99, 99, 99, 119, 99, 119, 119, 119, 999, 119, 999, 11, 119};
        String[] rest = {"", "", "", "", " 1 1 1", " 1 1", " 1", "", " 0", "", "", "", " 0", "", " 1 0", " 0", "", ""};
        for (int i = 0; i < items.length; i++) {
            int at = items[i].length();
            text(items[i] + low[i] + rest[i], 1, -1);
            text(items[i] + high[i] + rest[i], 1, -1);
            if (low[i] > 0) fault(items[i] + (low[i] - 1) + rest[i], at);
            fault(items[i] + (high[i] + 1) + rest[i], high[i] == 999 ? at + 3 : at);
            fault(items[i], at);
        }
        fault("wide 13x", 5);
        fault("wide 13 1", 5);
        fault("place 120", 6);
        fault("place 1200", 6);
        fault("wide 0000", 5);
        fault("wide 0012", 8);
        text("wide 012", 1, -1);
        fault("wide 12;wide 13", 13);
        fault("shop 5 0 12", 7);
    }

    private static void faultsOfRoom() {
        due.about("16 room");
        String[] words = {"sort", "place", "tree", "wall", "window", "shop", "pool"};
        String[] numbers = {" 1 1 1 1", " 0 0", " 0", " 0", " 0 0", " 0 1 0", " 0"};
        int[] most = {6, 9, 12, 12, 12, 8, 6};
        int[] what = {0, 1, 4, 5, 6, 7, 8};
        for (int i = 0; i < words.length; i++) {
            LightAlong x = new LightAlong();
            letters(x, 0, 0, words[i] + numbers[i]);
            for (int n = 1; n < most[i]; n++) due.is("street", x.street(0), 1);
            String two = words[i] + numbers[i] + ";" + words[i];
            letters(x, 1, 0, two + numbers[i]);
            due.is("street", x.street(1), -6);
            due.is("the second's word", x.fault(), two.length() - words[i].length());
            due.is("count", x.status(what[i]), most[i] - 1);
            due.is("street", x.street(0), 1);
            due.is("street", x.street(0), -6);
            due.is("its word", x.fault(), 0);
            letters(x, 1, 0, words[i]);
            due.is("street", x.street(1), -6);
            due.is("its word though it ends", x.fault(), 0);
            letters(x, 1, 0, words[i] + "x");
            due.is("street", x.street(1), -6);
            due.is("its word though another letter follows", x.fault(), 0);
            letters(x, 1, 0, words[i].substring(0, words[i].length() - 1));
            due.is("street", x.street(1), -6);
            due.is("not whole", x.fault(), words[i].length() - 1);
            letters(x, 1, 0, words[i].substring(0, words[i].length() - 1) + "x");
            due.is("street", x.street(1), -6);
            due.is("another letter", x.fault(), words[i].length() - 1);
            due.is("count", x.status(what[i]), most[i]);
        }
    }

    private static void lamps() {
        due.about("19");
        LightAlong x = along("sort 2 40 7 6;sort 3 90 20 9;place 0 3;place 3 5");
        due.is("lamp", x.lamp(0, 1), -1);
        due.is("lamp", x.lamp(0, 0), 1);
        due.is("out", x.out(0, true), 1);
        due.is("lamp", x.lamp(0, 0), 0);
        due.is("burns", x.placeOf(0, 3), 0);
        due.is("out", x.out(0, true), 1);
        due.is("free", x.lamp(0, -1), 0);
        due.is("free", x.lamp(0, -1), -1);
        due.is("not OUT", x.placeOf(0, 3), 0);
        due.is("place", x.lamp(2, 0), -11);
        due.is("place", x.lamp(-1, 0), -11);
        due.is("sort", x.lamp(0, 2), -11);
        due.is("sort", x.lamp(0, -2), -11);
        refused(x, -1, 4);
        due.about("20");
        due.is("free", x.out(0, true), -6);
        due.is("free", x.out(0, false), -6);
        due.is("place", x.out(2, true), -1);
        due.is("place", x.out(-1, true), -1);
        x.lamp(1, 1);
        due.is("so already", x.out(1, false), 0);
        due.is("out", x.out(1, true), 1);
        due.is("so already", x.out(1, true), 0);
        due.is("OUT", x.status(3), 1);
        due.is("lamps", x.status(2), 1);
        due.is("burns", x.out(1, false), 1);
        due.is("OUT", x.status(3), 0);
    }

    private static void lightOfOneLamp() {
        due.about("21");
        LightAlong x = along("sort 2 40 7 6;place 20 0");
        x.laying(0, 0, 0);
        due.is("no lamp", x.light(0, 20, 0, 0), 0);
        x.lamp(0, 0);
        due.is("below it", x.light(0, 20, 0, 0), 10000);
        due.is("3 yards", x.light(0, 26, 0, 0), 3076);
        due.is("3 yards back", x.light(0, 14, 0, 0), 3076);
        due.is("across", x.light(0, 21, 0, 0), 1000);
        due.is("across, 3 yards", x.light(0, 27, 0, 0), 816);
        due.is("beyond LONG", x.light(0, 118, 0, 0), 16);
        x.ask(2, 1);
        due.is("narrow", x.light(0, 21, 0, 0), 8000);
        x.out(0, true);
        due.is("OUT", x.light(0, 20, 0, 0), 0);
    }

    private static void treesAndWalls() {
        due.about("21 trees");
        LightAlong x = along("sort 2 40 7 6;place 20 0;tree 22");
        x.lamp(0, 0);
        x.laying(0, 0, 0);
        int[] bySeason = {3076, 3076, 3076, 2307, 1538, 769, 769, 769, 1538, 2307, 3076, 3076};
        for (int month = 0; month < 12; month++) {
            due.is("month " + month, x.light(0, 26, month, 0), bySeason[month]);
        }
        due.is("across, by the lamp's side", x.light(0, 27, 5, 0), 204);
        due.is("the tree's own yard", x.light(0, 22, 5, 0), 8000);
        due.is("before the tree", x.light(0, 18, 5, 0), 8000);
        x.stand(0, 20);
        x.stand(0, 26);
        due.is("no end counts", x.light(0, 26, 5, 0), 769);
        x.stand(0, 23);
        x.stand(0, 25);
        due.is("the other side", x.light(0, 26, 5, 0), 769);
        x.stand(0, 22);
        due.is("two at one yard", x.light(0, 26, 3, 0), 1730);
        x.stand(0, 24);
        due.is("cut each time", x.light(0, 26, 3, 0), 1297);
        due.about("21 walls");
        x = along("sort 2 40 7 6;place 20 0;wall 23;wall 20");
        x.lamp(0, 0);
        x.laying(0, 0, 0);
        due.is("the other side", x.light(0, 27, 5, 0), 816);
        x.stand(1, 22);
        due.is("before", x.light(0, 22, 0, 0), 8000);
        due.is("behind", x.light(0, 24, 0, 0), 0);
        due.is("behind, across", x.light(0, 25, 0, 0), 0);
        due.is("other way", x.light(0, 18, 0, 0), 8000);
    }

    private static void lightOfShops() {
        due.about("21 shops");
        LightAlong x = along("shop 10 103 3;wall 8;tree 8;tree 12");
        x.laying(0, 0, 0);
        int[] light = {0, 25, 51, 103, 51, 25, 0};
        for (int i = 0; i < light.length; i++) due.is("yard " + (i + 2), x.light(0, 4 + 2 * i, 6, 2), light[i]);
        due.is("across", x.light(0, 11, 0, 0), 0);
        due.is("its hour", x.light(0, 10, 0, 3), 0);
        due.is("later", x.light(0, 10, 0, 11), 0);
        add(x, "shop 14 7 11;shop 0 9 0");
        due.is("two", x.light(0, 12, 0, 2), 54);
        due.is("one", x.light(0, 12, 0, 10), 3);
        due.is("none", x.light(0, 12, 0, 11), 0);
        due.is("till 0", x.light(0, 0, 0, 0), 0);
    }

    private static void lightByKinds() {
        due.about("21 kinds");
        LightAlong x = along("sort 2 41 7 6;place 20 0;place 21 0;place 26 0;wide 3");
        for (int p = 0; p < 3; p++) x.lamp(p, 0);
        // At 20: 10250, 41000 / 13 = 3153, 3153.
        for (int kind = 0; kind < 7; kind++) x.laying(kind, kind, kind == 6 ? 5 : 1);
        due.is("LAYING", x.light(0, 20, 0, 0), 16556);
        due.is("ONE", x.light(1, 20, 0, 0), 3153);
        due.is("BOTH", x.light(2, 20, 0, 0), 16556);
        due.is("TURN", x.light(3, 20, 0, 0), 6306);
        due.is("DIM before", x.light(4, 20, 0, 0), 16556);
        due.is("DIM from then on", x.light(4, 20, 0, 1), 5125 + 1576 + 1576);
        due.is("DIM to the end", x.light(4, 20, 0, 11), 5125 + 1576 + 1576);
        due.is("THERE", x.light(5, 20, 0, 0), 16556);
        due.is("TOLD", x.light(6, 20, 0, 0), 13403);
        x.shop(20, 7, 5);
        due.is("DIM leaves shops", x.light(4, 20, 0, 1), 5125 + 1576 + 1576 + 7);
        x.lamp(0, -1);
        due.is("THERE less one", x.light(5, 20, 0, 11), 6306);
        x.place(20, 0);
        x.lamp(3, 0);
        due.is("THERE without the new one", x.light(5, 20, 0, 11), 6306);
        due.is("TOLD without the new one", x.light(6, 20, 0, 11), 3153);
        x.laying(6, 6, 8);
        due.is("TOLD", x.light(6, 20, 0, 11), 10250);
        x.laying(1, 1, 0);
        due.is("ONE, side 0", x.light(1, 20, 0, 11), 13403);
        x.lamp(3, -1);
        x.lamp(0, 0);
        due.is("ONE with PLACE 0", x.light(1, 20, 0, 11), 13403);
    }

    private static void turns() {
        due.about("8 turns");
        LightAlong x = along("sort 1 1 1 1;place 9 0;place 8 0;place 2 0;place 4 0;place 5 0;place 5 0;place 14 0");
        x.lay(127, 0);
        // By yards: 2 (yard 1, side 0), 3 (2, 0), 4, 5 (2, 1), 0 (4, 1), 1 (4, 0), 6 (7, 0).
        x.laying(0, 3, 0);
        x.laying(1, 3, 1);
        due.is("from 0", x.says(0, 2), 4 + 16 + 2);
        due.is("from 1", x.says(1, 2), 16 + 2);
        x.out(4, true);
        due.is("the next one instead", x.says(0, 2), 4 + 32 + 2);
        x.out(5, true);
        due.is("and the next", x.says(0, 2), 4 + 1 + 2);
        x.out(0, true);
        due.is("none of side 1", x.says(0, 2), 4);
        due.is("none of side 1", x.says(1, 2), 0);
        due.is("how many", x.says(0, 0), 1);
        x.place(1, 0);
        x.place(0, 0);
        x.lamp(7, 0);
        x.lamp(8, 0);
        due.is("two at YARD 0", x.says(0, 2), 256);
        due.is("two at YARD 0", x.says(1, 2), 128 + 256);
        x.lay(0, 0);
        x.lamp(0, 0);
        due.is("alone", x.says(1, 2), 1);
    }

    private static void faces() {
        due.about("22");
        LightAlong x = along("sort 2 41 7 6;place 20 0;place 21 0;place 26 0;wide 3;shop 18 100 11");
        x.lay(7, 0);
        x.laying(0, 0, 0);
        x.laying(1, 1, 1);
        x.laying(4, 4, 6);
        // At 18: from 20 41000 / 5 = 8200, from 21 41000 / 14 = 2928, from 26 41000 / 20 = 2050.
        due.is("face", x.face(0, 18, 0, 0), 4100 + 1464 + 1025);
        due.is("light", x.light(0, 18, 0, 0), 8200 + 2928 + 2050 + 100);
        due.is("face of one side", x.face(1, 18, 0, 0), 1464);
        due.is("dim", x.face(4, 18, 0, 6), 2050 + 732 + 512);
        due.is("not dim yet", x.face(4, 18, 0, 5), 4100 + 1464 + 1025);
        due.is("no lamp at its own yard", x.face(0, 20, 0, 0), 3153 / 2);
        due.is("none ahead", x.face(0, 26, 0, 0), 0);
        x.stand(0, 22);
        due.is("trees", x.face(0, 18, 6, 0), 4100 + 1464 + 2050 / 4 / 2);
        due.is("point", x.face(9, 120, 12, 12), -1);
        due.is("shelf", x.face(-1, 0, 12, 12), -1);
        due.is("nothing", x.face(5, 0, 12, 12), -3);
        x.row(5, 0, 0);
        due.is("row", x.face(5, 0, 12, 12), -2);
        due.is("month", x.face(0, 0, 12, 0), -6);
        due.is("hour", x.face(0, 0, 0, 12), -6);
    }

    private static void refusalsOfLight() {
        due.about("21, 23, 24, 33 refusals");
        LightAlong x = new LightAlong();
        x.laying(0, 0, 0);
        x.row(1, 0, 0);
        for (int s : new int[] {-1, 8}) {
            due.is("light", x.light(s, 120, 12, 12), -1);
            due.is("faulty", x.faulty(s, 12, 12), -1);
            due.is("dark", x.dark(s, 12, 12), -11);
            due.is("shade", x.shade(s, 0, 12), -11);
        }
        for (int point : new int[] {-1, 120}) {
            due.is("light", x.light(2, point, 12, 12), -1);
            due.is("shade", x.shade(1, point, 12), -11);
        }
        due.is("light", x.light(1, 0, 12, 12), -2);
        due.is("light", x.light(2, 0, 12, 12), -3);
        due.is("faulty", x.faulty(1, 12, 12), -2);
        due.is("faulty", x.faulty(2, 12, 12), -3);
        due.is("dark", x.dark(1, 12, 12), -12);
        due.is("dark", x.dark(2, 12, 12), -13);
        due.is("shade", x.shade(1, 0, 12), -12);
        due.is("shade", x.shade(2, 0, 12), -13);
        refused(x, -1, 12);
        refused(x, -2, 4);
        refused(x, -3, 4);
        for (int wrong : new int[] {-1, 12, MAX, MIN}) {
            due.is("light", x.light(0, 0, wrong, 0), -6);
            due.is("light", x.light(0, 0, 0, wrong), -6);
            due.is("faulty", x.faulty(0, wrong, 0), -6);
            due.is("faulty", x.faulty(0, 0, wrong), -6);
            due.is("dark", x.dark(0, wrong, 0), -16);
            due.is("dark", x.dark(0, 0, wrong), -16);
            due.is("shade", x.shade(0, 0, wrong), -16);
        }
        refused(x, -6, 28);
    }

    private static void wellOrFaulty() {
        due.about("23, 24");
        LightAlong x = along("least 100;even 99;long 5;wide 1;sort 2 40 7 6;place 4 0");
        x.laying(0, 0, 0);
        due.is("dark", x.faulty(0, 0, 0), 1);
        due.is("first", x.dark(0, 0, 0), 0);
        x.lamp(0, 0);
        // Yards from 2: 40000 / 4, 5, 8; across 5, 6, 9.
        due.is("well", x.faulty(0, 0, 0), 0);
        due.is("well", x.dark(0, 0, 0), -1);
        x.ask(3, 30);
        due.is("longer", x.faulty(0, 0, 0), 1);
        // 40000 / (4 + 400) = 99 at yard 22; across at yard 21: 40000 / (5 + 361) = 109.
        due.is("first", x.dark(0, 0, 0), 44);
        x.stand(2, 44);
        due.is("pools aside", x.dark(0, 0, 0), 45);
        x.ask(0, 0);
        due.is("a bright pool", x.faulty(0, 0, 0), 2);
        due.is("the pool", x.dark(0, 0, 0), 44);
        x.stand(2, 6);
        due.is("by numbers, not by age", x.dark(0, 0, 0), 6);
        x.ask(3, 3);
        due.is("beyond LONG", x.faulty(0, 0, 0), 0);
        x.ask(1, 2);
        // Lights of 0 to 5: 5000, 4444, 8000, 6666, 10000, 8000.
        due.is("uneven", x.faulty(0, 0, 0), 3);
        due.is("the least", x.dark(0, 0, 0), 1);
        x.ask(1, 3);
        due.is("even", x.faulty(0, 0, 0), 0);
        x.window(5, 999);
        x.window(2, 999);
        due.is("bright", x.faulty(0, 0, 0), 4);
        due.is("the first window", x.dark(0, 0, 0), 5);
        x.ask(3, 2);
        due.is("the other one is beyond", x.dark(0, 0, 0), 2);
        x.ask(3, 1);
        due.is("both are beyond", x.faulty(0, 0, 0), 0);
    }

    private static void edgesOfRules() {
        due.about("23 edges");
        LightAlong x = along("least 25;long 3;shop 2 100 1;shop 3 100 1;even 2");
        x.laying(0, 0, 0);
        due.is("half is even enough", x.faulty(0, 0, 0), 0);
        due.is("dark by hour 1", x.faulty(0, 0, 1), 1);
        x.ask(0, 50);
        due.is("LEAST is enough", x.faulty(0, 0, 0), 0);
        x.ask(0, 51);
        due.is("less isn't", x.faulty(0, 0, 0), 1);
        x.ask(0, 0);
        x.ask(1, 1);
        due.is("uneven", x.dark(0, 0, 0), 0);
        x.ask(1, 2);
        x.window(2, 99);
        due.is("above its bar", x.dark(0, 0, 0), 2);
        due.is("the first by numbers", x.dark(0, 0, 0), 2);
        x = along("least 25;long 3;shop 2 100 1;shop 3 100 1;even 2;window 2 100");
        x.laying(0, 0, 0);
        due.is("its bar is enough", x.faulty(0, 0, 0), 0);
        x = along("least 1;long 1;pool 0;shop 0 5 1;shop 1 1 1;even 1");
        x.laying(0, 0, 0);
        due.is("5 is dark enough", x.faulty(0, 0, 0), 0);
        add(x, "shop 0 1 1");
        due.is("6 isn't", x.faulty(0, 0, 0), 2);
        due.is("its point", x.dark(0, 0, 0), 0);
        due.is("later it is too dark first", x.faulty(0, 0, 1), 1);
        due.is("at the other", x.dark(0, 0, 1), 1);
        x = along("least 999;long 1;pool 0;pool 1;even 1");
        x.laying(0, 0, 0);
        due.is("all pools", x.faulty(0, 0, 0), 0);
        due.is("all pools", x.dark(0, 0, 0), -1);
        due.is("worst", x.worst(), 0);
    }

    private static void chosen() {
        due.about("25");
        LightAlong x = along("sort 3 90 20 9;sort 2 40 7 6;place 0 3;place 3 5;place 8 4");
        due.is("coin", x.coin(5, 1), 21);
        due.is("coin", x.coin(7, 0), 72);
        due.is("coin", x.coin(0, 0), 0);
        due.is("sort", x.coin(0, 2), -1);
        due.is("sort", x.coin(0, -1), -1);
        due.is("places", x.coin(8, 0), -1);
        due.is("places", x.coin(-1, 0), -1);
        due.is("places", x.coin(MIN, 0), -1);
        due.about("26, 27, 28 refusals");
        due.is("sort", x.cheapest(2, 12), -1);
        due.is("sort", x.fewest(-1, 12), -1);
        due.is("sort", x.firm(2, 12), -1);
        due.is("month", x.cheapest(0, 12), -6);
        due.is("month", x.fewest(0, -1), -6);
        due.is("month", x.firm(0, 12), -6);
        x.ask(0, 999);
        x.ask(1, 1);
        due.is("none", x.cheapest(0, 0), -5);
        due.is("none", x.fewest(0, 0), -5);
        due.is("none", x.firm(0, 0), -5);
        due.is("none", x.which(0), -5);
        due.is("month", x.which(12), -6);
        due.is("month", x.which(-1), -6);
        refused(x, -5, 4);
        refused(x, -6, 5);
        refused(x, -1, 8);
        x = along("least 0");
        x.sort(1, 1, 1, 1);
        due.is("the empty set", x.cheapest(0, 0), 0);
        due.is("the empty set", x.fewest(0, 0), 0);
        due.is("the empty set", x.firm(0, 0), 0);
        due.is("which", x.which(0), 0);
        due.is("no sorts", new LightAlong().which(0), -5);
    }

    private static void chosenAmongEquals() {
        due.about("26, 27 equals");
        // Within LONG 1 any lamp is enough by itself.
        LightAlong x = along("least 1;even 99;long 1;wide 1;sort 2 40 7 6;place 0 3;place 2 2;place 3 2;place 1 9");
        due.is("least coin, then least bits", x.cheapest(0, 0), 2);
        due.is("likewise", x.fewest(0, 0), 2);
        due.is("firm", x.firm(0, 0), 6);
        x = along("least 800;even 99;long 2;wide 1;sort 2 4 0 6;place 0 40;place 2 40;place 1 5;place 3 5;place 5 5");
        // Each gives some POINT 666 or less; any two of the cheap ones are enough.
        due.is("cheapest", x.coin(x.cheapest(0, 0), 0), 10);
        due.is("cheapest", x.cheapest(0, 0), 12);
        due.is("fewest", x.fewest(0, 0), 12);
        x = along("least 999;even 99;long 1;wide 1;sort 2 4 0 6;place 0 90;place 4 9;place 5 9;place 4 9;place 0 91");
        // At 0 they give 1000 and 800, two yards off 500 and 444 (or 444 and 500).
        due.is("many cheap ones", x.cheapest(0, 0), 14);
        due.is("few dear ones", x.fewest(0, 0), 3);
        x.lamp(0, 0);
        x.out(0, true);
        due.is("what stands doesn't matter", x.cheapest(0, 0), 14);
        due.about("30");
        add(x, "sort 1 40 3 6;sort 1 40 3 6");
        due.is("by the second sort", x.cheapest(1, 0), 2);
        due.is("the second sort is of less coin", x.which(0), 1);
        x = along("least 999;even 99;long 1;wide 1;sort 2 4 9 6;sort 1 4 3 6;sort 1 4 3 6;place 0 9;place 1 9");
        due.is("by the first sort", x.coin(x.cheapest(0, 0), 0), 36);
        due.is("by the second sort", x.coin(x.cheapest(1, 0), 1), 12);
        due.is("the first of equals", x.which(0), 1);
        x = along("least 999;even 99;long 1;wide 1;sort 2 1 0 6;sort 1 4 3 6;place 0 9;place 1 9");
        due.is("none by the first sort", x.cheapest(0, 0), -5);
        due.is("so the second", x.which(0), 1);
        refused(x, -5, 1);
    }

    private static void chosenByAllRules() {
        due.about("26 rules");
        String base = "least 1;even 99;long 6;wide 1;sort 2 40 0 6;place 0 0;place 10 5;place 5 9;shop 4 999 1";
        due.is("plain", along(base).cheapest(0, 0), 1);
        due.is("a wall", along(base + ";wall 4").cheapest(0, 0), 3);
        due.is("even", along(base + ";even 2").cheapest(0, 0), 3);
        due.is("window", along(base + ";window 0 999").cheapest(0, 0), -5);
        due.is("pool", along(base + ";pool 3").cheapest(0, 0), -5);
        due.is("beyond LONG", along(base + ";pool 12;window 13 0").cheapest(0, 0), 1);
        LightAlong x = along("least 200;even 99;long 3;wide 1;sort 2 4 0 6;place 0 0;place 4 9;tree 2");
        due.is("winter", x.cheapest(0, 2), 1);
        due.is("spring", x.cheapest(0, 4), 1);
        due.is("summer", x.cheapest(0, 5), 3);
        due.is("shops at hour 0", along("least 7;long 1;sort 1 1 1 1;shop 0 7 1;shop 1 7 1").cheapest(0, 0), 0);
        due.is("shops till 0", along("least 7;long 1;sort 1 1 1 1;shop 0 7 0;shop 1 7 1").cheapest(0, 0), -5);
    }

    private static void firmOnes() {
        due.about("28");
        String two = "least 400;even 99;long 2;wide 1;sort 2 4 0 6;place 0 1;place 3 2;place 2 4;place 5 8";
        due.is("any one out", along(two).firm(0, 0), 3);
        due.is("cheapest", along(two).cheapest(0, 0), 1);
        due.is("LEAST counts", along(two + ";least 666").firm(0, 0), 3);
        due.is("one isn't enough", along(two + ";least 667").cheapest(0, 0), 3);
        due.is("so two aren't firm", along(two + ";least 667").firm(0, 0), 7);
        due.is("the empty set", along(two + ";even 1;least 0").firm(0, 0), 0);
        LightAlong x = along("least 100;even 2;long 3;wide 1;sort 2 40 0 6;place 0 1;place 5 2");
        due.is("uneven alone", x.cheapest(0, 0), 3);
        due.is("firm though uneven then", x.firm(0, 0), 3);
        due.is("none of it", along("least 999;even 99;long 1;sort 1 1 1 1;place 0 0").firm(0, 0), -5);
    }

    private static void bounds() {
        due.about("29");
        LightAlong x = along("least 999;even 99;long 1;wide 1;sort 1 1 0 6;place 0 0;place 1 0;place 2 0;place 0 0");
        // At 0: 1000, 500, 500, 1000; at 1: 500, 1000, 333, 500.
        due.is("one", x.bound(0, 0), 1);
        x = along("least 999;even 99;long 1;wide 1;sort 1 1 0 6;place 0 0;place 2 0;place 0 0");
        // At 1: 500, 333, 500.
        due.is("two at 1", x.bound(0, 0), 2);
        x.shop(1, 499, 1);
        due.is("shops counted", x.bound(0, 0), 1);
        x = along("least 609;even 99;long 1;wide 2;sort 1 1 0 6;place 2 0;place 2 0;place 4 0;place 2 0");
        // At 0: 500, 500, 200, 500; at 1: 166, 166, 111, 166.
        due.is("all four", x.bound(0, 0), 4);
        x.ask(0, 610);
        due.is("not even all", x.bound(0, 0), -1);
        x.ask(0, 499);
        due.is("four", x.bound(0, 0), 4);
        x.ask(0, 498);
        due.is("the greatest three", x.bound(0, 0), 3);
        x.stand(2, 1);
        due.is("pools aside", x.bound(0, 0), 1);
        x.stand(2, 0);
        due.is("all pools", x.bound(0, 0), 0);
        x = along("least 999;long 1;wide 1;sort 1 1 0 6;place 2 0;place 4 0;shop 0 999 1;shop 1 999 0");
        due.is("none", x.bound(0, 0), -1);
        x.ask(0, 0);
        due.is("no lamp needed", x.bound(0, 0), 0);
        due.is("sort", x.bound(1, 12), -11);
        due.is("sort", x.bound(-1, 0), -11);
        due.is("month", x.bound(0, 12), -16);
        due.is("month", x.bound(0, -1), -16);
        refused(x, -1, 2);
        refused(x, -6, 2);
        refused(x, -5, 0);
        x = along("least 200;long 3;wide 1;sort 2 4 0 6;place 0 0;place 0 0;tree 2");
        // At yard 2 500 and 444, by LEAVES 2 250 and 222, by LEAVES 3 125 and 111.
        due.is("winter", x.bound(0, 0), 1);
        due.is("spring", x.bound(0, 4), 1);
        due.is("summer", x.bound(0, 6), 2);
        x.ask(3, 2);
        due.is("within LONG alone", x.bound(0, 6), 1);
    }

    private static void reaches() {
        due.about("31");
        LightAlong x = along("sort 2 40 7 6;sort 12 1 1 1;least 100;tree 2;wall 4;place 0 0");
        due.is("40000 / (4 + 396) is 100", x.reach(0), 19);
        x.ask(0, 99);
        due.is("40000 / (4 + 400) is 99", x.reach(0), 20);
        x.ask(0, 11);
        due.is("59 at most", x.reach(0), 59);
        x.ask(0, 12);
        due.is("40000 / (4 + 3329)", x.reach(0), 57);
        x.ask(0, 7);
        due.is("1000 / 144 is 6", x.reach(1), -1);
        x.ask(0, 6);
        due.is("1000 / (144 + 22)", x.reach(1), 4);
        x.ask(0, 0);
        due.is("0 is everywhere", x.reach(1), 59);
        due.is("sort", x.reach(2), -11);
        due.is("sort", x.reach(-1), -11);
        add(x, "sort 1 1 1 1;least 999");
        due.is("at 0 alone", x.reach(2), 0);
        refused(x, -1, 2);
    }

    private static void worsts() {
        due.about("32");
        LightAlong x = along("least 1;long 4;wide 1;sort 2 40 7 6;place 0 0");
        x.lamp(0, 0);
        due.is("no trees", x.worst(), 0);
        x.stand(0, 2);
        due.is("summer", x.worst(), 5);
        x.stand(2, 6);
        due.is("another point is dark too", x.worst(), 5);
        x.ask(3, 2);
        due.is("behind LONG", x.worst(), 0);
        x.ask(3, 3);
        due.is("seen again", x.worst(), 5);
        x.stand(2, 4);
        due.is("pool aside, but across", x.worst(), 5);
        x.stand(2, 5);
        due.is("pools aside", x.worst(), 0);
        x.ask(3, 4);
        due.is("longer", x.worst(), 5);
        x.out(0, true);
        due.is("all dark", x.worst(), 0);
        x = along("long 3;wide 1;sort 1 1 0 1;place 0 0;tree 2;tree 2;tree 2;tree 2;tree 2");
        x.lamp(0, 0);
        // At yard 2: 200, 150..47, 100..6, 50..0; across 166.
        due.is("by leaves", x.worst(), 5);
        add(x, "tree 2;tree 2;tree 2;tree 2;tree 2");
        due.is("nothing left by LEAVES 2 already", x.worst(), 4);
        x = along("long 13;wide 1;sort 12 1 0 1;place 0 0;tree 2");
        x.lamp(0, 0);
        due.is("3, then 2, then 1, then 0", x.worst(), 5);
        x = along("long 3;wide 1;sort 2 4 0 1;place 0 0;tree 2");
        x.lamp(0, 0);
        due.is("behind the tree", x.worst(), 5);
        add(x, "shop 4 999 1;shop 5 999 1");
        // In summer 1124 and 1110 there; 1049 at POINT 1 in any MONTH.
        due.is("the shops make up for it", x.worst(), 0);
    }

    private static void shades() {
        due.about("33");
        LightAlong x = along("sort 2 40 7 6;sort 2 41 7 6;place 20 0;place 24 0;place 20 0;place 40 0");
        x.laying(0, 0, 0);
        due.is("no lamps", x.shade(0, 20, 0), -1);
        x.lay(7, 0);
        due.is("nearest, the first", x.shade(0, 20, 0), 0);
        due.is("nearest", x.shade(0, 24, 0), 1);
        due.is("in the middle", x.shade(0, 22, 0), 0);
        x.lamp(2, 1);
        due.is("greatest", x.shade(0, 22, 0), 2);
        x.out(2, true);
        due.is("OUT", x.shade(0, 22, 0), 0);
        x.stand(0, 22);
        due.is("tree in winter", x.shade(0, 23, 0), 0);
        due.is("tree", x.shade(0, 18, 6), 0);
        x.lamp(0, -1);
        x.laying(1, 6, 8);
        x.lamp(3, 0);
        due.is("TOLD", x.shade(1, 20, 0), 3);
        x.laying(1, 6, 1);
        due.is("free", x.shade(1, 20, 0), -1);
        x = along("sort 12 1 0 1;place 0 0;shop 119 9 3");
        x.lamp(0, 0);
        x.laying(0, 0, 0);
        x.laying(1, 4, 0);
        x.laying(2, 4, 1);
        // 1000 / (144 + 841 + 0) is 1 at 29 yards, half of it 0.
        due.is("1 is light", x.shade(0, 58, 0), 0);
        due.is("dimmed away", x.shade(1, 58, 0), -1);
        due.is("not yet", x.shade(2, 58, 0), 0);
        due.is("shops aside", x.shade(0, 119, 0), -1);
    }

    private static void spills() {
        due.about("34");
        LightAlong x = along("least 25;shop 10 100 1;shop 10 100 0;long 1");
        due.is("5 points", x.spill(0, 0), 5);
        due.is("till 0", x.spill(1, 0), 0);
        x.ask(0, 26);
        due.is("3 points", x.spill(0, 0), 3);
        x.ask(0, 101);
        due.is("too dark anyway", x.spill(0, 0), 0);
        x.ask(0, 0);
        due.is("bright enough without", x.spill(0, 0), 0);
        x.ask(0, 26);
        add(x, "sort 2 40 7 6;place 0 0;wall 8;pool 10");
        x.lamp(0, 0);
        due.is("a lamp's light before the wall, a pool counts", x.spill(0, 0), 2);
        x.out(0, true);
        due.is("OUT", x.spill(0, 0), 3);
        add(x, "shop 10 30 5");
        // Both give 130, 65 twice and 32 twice; the first 100, 50, 25, the other one 30, 15, 7.
        due.is("beside another shop", x.spill(0, 0), 4);
        due.is("that one", x.spill(2, 0), 2);
        due.is("shop", x.spill(3, 12), -1);
        due.is("shop", x.spill(-1, 0), -1);
        due.is("month", x.spill(0, 12), -6);
        due.is("month", x.spill(0, -1), -6);
        x = along("least 25;shop 0 100 1;shop 118 100 1");
        due.is("at one end", x.spill(0, 0), 3);
        due.is("at the other", x.spill(1, 0), 3);
        x = along("least 100;sort 2 4 0 1;place 0 0;tree 2;shop 4 90 1");
        x.lamp(0, 0);
        // At yard 2 500, in summer 125; at yard 3 307, 76 and 45; at yard 4 200, 50 and 22.
        due.is("winter", x.spill(0, 0), 0);
        due.is("summer", x.spill(0, 6), 1);
        x.ask(0, 80);
        due.is("the lamp's whole light", x.spill(0, 6), 1);
    }

    private static void dims() {
        due.about("35");
        LightAlong x = along("least 40;even 99;long 2;wide 1;sort 2 1 0 1;place 0 0");
        due.is("dark", x.dim(0), -1);
        x.lamp(0, 0);
        // 250, 200, 200, 166, halved 125, 100, 100, 83.
        due.is("well at once", x.dim(0), 0);
        x.ask(0, 83);
        due.is("just so", x.dim(0), 0);
        x.ask(0, 84);
        due.is("too dark", x.dim(0), -1);
        x.shop(3, 1, 5);
        due.is("well as long as the shop, but not to the end", x.dim(0), -1);
        x.ask(0, 40);
        x.window(0, 130);
        x.shop(0, 6, 7);
        due.is("once the shop is closed", x.dim(0), 7);
        x.shop(0, 6, 11);
        due.is("once both are", x.dim(0), 11);
        x.window(0, 124);
        due.is("too bright", x.dim(0), -1);
        due.is("month", x.dim(-1), -16);
        due.is("month", x.dim(12), -16);
        refused(x, -6, 2);
        x = along("least 100;even 99;long 3;wide 1;sort 2 3 0 1;place 0 0;tree 2");
        x.lamp(0, 0);
        // At yard 2 375 halved 187, across 333 halved 166; by LEAVES 2 half of it, 83.
        due.is("winter", x.dim(0), 0);
        due.is("spring", x.dim(3), 0);
        due.is("april", x.dim(4), -1);
        due.is("summer", x.dim(6), -1);
        x.out(0, true);
        due.is("OUT", x.dim(0), -1);
    }

    private static void bulbs() {
        due.about("36");
        LightAlong x = along("sort 2 40 7 6;sort 2 40 20 9;place 0 0;place 2 0;place 4 0;place 6 0");
        due.is("none", x.bulbs(12, false), 0);
        due.is("none", x.bulbs(12, true), 0);
        x.lamp(0, 0);
        x.lamp(1, 1);
        x.lamp(2, 1);
        due.is("as they go", x.bulbs(20, false), 3 * 37 + 2 * 50 + 2 * 50);
        due.is("together", x.bulbs(20, true), 3 * (47 + 50));
        due.is("not yet", x.bulbs(5, false), 0);
        due.is("not yet", x.bulbs(5, true), 0);
        due.is("the first", x.bulbs(6, false), 37);
        due.is("the first", x.bulbs(6, true), 97);
        x.out(0, true);
        due.is("new from now on", x.bulbs(6, true), 97);
        due.is("most", x.bulbs(240, true), 40 * 97);
        due.is("most", x.bulbs(240, false), 40 * 37 + 52 * 50);
        for (boolean together : new boolean[] {false, true}) {
            due.is("0", x.bulbs(0, together), -6);
            due.is("241", x.bulbs(241, together), -6);
            due.is("far", x.bulbs(MIN, together), -6);
        }
        due.is("one", x.bulbs(1, true), 0);
        add(x, "sort 1 1 5 1;place 0 0");
        x.lay(16, 2);
        due.is("one month each", x.bulbs(3, true), 3 * 55);
        due.is("one month each", x.bulbs(3, false), 3 * 35);
    }

    private static void moves() {
        due.about("37");
        LightAlong x = along("sort 2 40 7 6;sort 2 40 20 9;place 0 1;place 2 2;place 4 3;place 6 4");
        x.lamp(0, 0);
        x.lamp(1, 1);
        due.is("change and come", x.moved(7, 0), 2);
        due.is("go", x.moved(0, 0), 2);
        due.is("stay", x.moved(1, 0), 1);
        due.is("others", x.moved(12, 1), 4);
        x.out(0, true);
        due.is("OUT stays", x.moved(1, 0), 1);
        due.is("sort", x.moved(1, 2), -1);
        due.is("sort", x.moved(1, -1), -1);
        due.is("places", x.moved(16, 0), -1);
        due.is("places", x.moved(-1, 0), -1);
        due.about("38");
        due.is("sort", x.lay(1, 2), -1);
        due.is("sort", x.lay(1, -1), -1);
        due.is("places", x.lay(16, 0), -1);
        due.is("places", x.lay(-1, 0), -1);
        due.is("nothing changed", x.placeOf(1, 2), 1);
        due.is("lay", x.lay(13, 0), 29);
        int[] sorts = {0, -1, 0, 0};
        for (int p = 0; p < 4; p++) due.is("sort of " + p, x.placeOf(p, 2), sorts[p]);
        due.is("all burn", x.status(3), 0);
        due.is("moved", x.moved(13, 0), 0);
        due.is("none", x.lay(0, 1), 0);
        due.is("none", x.status(2), 0);
    }

    private static void judges() {
        due.about("39");
        LightAlong x = along("shop 10 100 1;sort 2 40 0 1;place 119 0");
        x.laying(0, 0, 0);
        x.row(1, 3, 15);
        due.is("first", x.judge(0, 1, 0), 6);
        x.set(1, 6, 25);
        x.set(1, 8, 50 + (7L << 32));
        x.set(1, 10, 100);
        x.set(1, 12, 50);
        due.is("almost", x.judge(0, 1, 0), 14);
        x.set(1, 14, 25);
        due.is("all", x.judge(0, 1, 0), -1);
        x.row(2, 3, 120);
        x.copy(1, 2, 0, 0, 15);
        due.is("all", x.judge(0, 2, 0), -1);
        x.set(2, 119, 1);
        due.is("the last", x.judge(0, 2, 0), 119);
        x.lamp(0, 0);
        due.is("a lamp", x.judge(0, 1, 0), 0);
        x.row(3, 0, 0);
        x.lamp(0, -1);
        due.is("missing ones are 0", x.judge(0, 3, 0), 6);
        due.is("shelf", x.judge(8, 0, 12), -11);
        due.is("shelf", x.judge(1, -1, 12), -11);
        due.is("row for laying", x.judge(1, 6, 12), -12);
        due.is("laying for row", x.judge(6, 0, 12), -12);
        due.is("nothing", x.judge(6, 1, 12), -13);
        due.is("nothing", x.judge(0, 6, 12), -13);
        due.is("month", x.judge(0, 1, 12), -16);
        due.is("month", x.judge(0, 1, -1), -16);
        refused(x, -1, 2);
        refused(x, -2, 2);
        refused(x, -3, 2);
        refused(x, -6, 2);
    }

    private static void body(LightAlong x, int s, int act, int in, int answer, int... bodies) {
        due.is("act " + act + " of " + s, x.act(s, act, in), answer);
        for (int i = 0; i < bodies.length; i++) due.is("trace " + i, x.trace(i), bodies[i]);
        due.is("behind the trace", x.trace(bodies.length), -1);
        due.is("how many", x.status(9), bodies.length);
    }

    private static void acts() {
        due.about("40, 41");
        LightAlong x = new LightAlong();
        for (int kind = 0; kind < 7; kind++) x.laying(kind, kind, kind == 4 ? 11 : kind == 6 ? 300 : 1);
        int v = 1000;
        body(x, 0, 0, v, 1000, 10);
        body(x, 0, 1, v, 2000, 11, 10);
        body(x, 0, 2, v, 2000 ^ 1000, 12, 11, 10, 10);
        body(x, 1, 0, v, 1002, 20, 10);
        body(x, 1, 1, v, 2004, 11, 20, 10);
        body(x, 1, 2, v, 2004 ^ 1001, 12, 11, 20, 10, 20, 10);
        body(x, 2, 0, v, 1002, 10);
        body(x, 2, 1, v, 6012, 30, 11, 10);
        body(x, 2, 2, v, 6012 ^ 1002, 12, 30, 11, 10, 10);
        body(x, 3, 0, v, 1000, 41, 10);
        body(x, 3, 1, v, 1001 * 6, 40, 30, 11, 41, 10);
        body(x, 3, 2, v, 1001 * 6 ^ 999, 12, 40, 30, 11, 41, 10, 41, 10);
        body(x, 4, 0, v, 1004, 10);
        body(x, 4, 1, v, 2008, 11, 10);
        body(x, 4, 2, v, -(2008 ^ 993), 50, 12, 11, 10, 10);
        body(x, 5, 0, v, 1005 ^ 5, 60, 10);
        body(x, 5, 1, v, (1005 ^ 5) * 6, 30, 11, 60, 10);
        body(x, 5, 2, v, (1005 ^ 5) * 6 ^ 1005 ^ 5, 12, 30, 11, 60, 10, 60, 10);
        body(x, 6, 0, v, 1006, 10);
        body(x, 6, 1, v, 1006 * 4, 70, 11, 10);
        body(x, 6, 2, v, 706 * 4 ^ 406, 71, 12, 70, 11, 10, 10);
        body(x, 6, 0, MAX, MIN + 5, 10);
        body(x, 2, 1, MAX, (MAX + 2) * 6, 30, 11, 10);
        body(x, 0, 3, 1, 0);
        body(x, 0, 0, 1, 1, 10);
        body(x, 0, -1, 1, 0);
        body(x, 0, 0, 1, 1, 10);
        body(x, 7, 0, 1, 0);
        body(x, 0, 0, 1, 1, 10);
        body(x, 8, 0, 1, 0);
        x.row(0, 0, 3);
        body(x, 1, 0, 1, 3, 20, 10);
        body(x, 0, 0, 1, 0);
        due.is("trace", x.trace(-1), -1);
        due.is("trace", x.trace(MAX), -1);
        for (int what = 11; what < 18; what++) due.is("no refusal", x.status(what), 0);
    }

    private static void images() {
        due.about("42, 43");
        LightAlong x = along("least 5;sort 2 40 7 6;place 0 1;place 2 2;tree 1;wall 2;window 3 4;shop 5 6 7;pool 8");
        due.is("none yet", x.restore(), -6);
        x.lamp(0, 0);
        x.out(0, true);
        due.is("image", x.image(), 2);
        x.laying(0, 5, 0);
        add(x, "least 6;even 9;wide 1;long 60;sort 1 1 1 1;place 4 2;tree 1;wall 2;window 3 4;shop 5 6 7;pool 8");
        x.out(0, false);
        x.lamp(1, 1);
        x.row(1, 2, 3);
        x.act(0, 0, 1);
        letters(x, 2, 0, "least x");
        x.street(2);
        due.is("restore", x.restore(), 2);
        int[] counts = {1, 2, 1, 1, 1, 1, 1, 1, 1, 2};
        for (int what = 0; what < 10; what++) due.is("status " + what, x.status(what), counts[what]);
        due.is("refusals stay", x.status(16), 2);
        due.is("shelf", x.holds(0), 5);
        due.is("shelf", x.holds(1), 102);
        due.is("the fault stays", x.fault(), 6);
        due.is("the trace stays", x.trace(0), 60);
        due.is("free", x.placeOf(1, 2), -1);
        int[] was = {5, 8, 6, 40};
        for (int what = 0; what < 4; what++) due.is("ask", x.ask(what, 12), was[what]);
        x.sort(3, 3, 3, 3);
        due.is("added anew", x.sortOf(1, 0), 3);
        due.is("restore again", x.restore(), 2);
        due.is("LEAST", x.ask(0, 12), 5);
        due.is("OUT", x.placeOf(0, 3), 1);
        x.place(9, 9);
        due.is("another image", x.image(), 3);
        due.is("restore", x.restore(), 3);
        due.is("LEAST", x.ask(0, 12), 12);
    }

    private static void statuses() {
        due.about("44");
        LightAlong x = along("sort 2 40 7 6;place 0 1;place 2 2;place 4 5;tree 1;tree 2;wall 2;wall 3;wall 4;window 3 4");
        add(x, "shop 5 6 7;shop 5 6 7;pool 8;pool 8;pool 8");
        x.lay(7, 0);
        x.out(1, true);
        int[] counts = {1, 3, 3, 1, 2, 3, 1, 2, 3, 0};
        for (int what = 0; what < 10; what++) due.is("status " + what, x.status(what), counts[what]);
        for (int what : new int[] {-1, 10, 18, MAX, MIN}) due.is("another what", x.status(what), -1);
        x.laying(0, 0, 0);
        x.row(9, 0, 0);
        x.lamp(9, 0);
        x.says(0, 1);
        x.set(1, 0, 0);
        x.dark(1, 0, 0);
        x.row(1, 0, -1);
        x.sortOf(9, 9);
        x.cheapest(0, 12);
        x.dim(12);
        x.row(1, 0, 121);
        int[] refusals = {2, 1, 2, 1, 1, 2, 1};
        for (int i = 0; i < 7; i++) due.is("refusals -" + (i + 1), x.status(11 + i), refusals[i]);
        due.is("not counted", x.bound(0, 0), x.bound(0, 0));
        due.is("not counted", x.trace(-1), -1);
        for (int i = 0; i < 7; i++) due.is("refusals -" + (i + 1), x.status(11 + i), refusals[i]);
    }
}
