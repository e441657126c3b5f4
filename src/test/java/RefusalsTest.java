import java.util.ArrayList;
import java.util.List;
import java.util.function.Supplier;

/**
 * Each call's refusals, each by itself on both sides of its bound and beside each later one that fits as well:
 * what is answered, that it alone is counted, and that nothing else changes.
 */
public final class RefusalsTest {
    private interface Call {
        long on(LightAlong x);
    }

    private static final Due due = new Due();
    private static final int MAX = Integer.MAX_VALUE;
    private static final int MIN = Integer.MIN_VALUE;

    /** What the SHELVES of a scene hold. */
    private static final int LAID = 0;
    private static final int INTS = 1;
    private static final int BYTES = 2;
    private static final int EMPTY = 3;
    private static final int FEW = 4;
    private static final int TURN = 5;
    private static final int THERE = 6;
    private static final int TEXT = 7;

    private static final int[] NO_SHELF = {-1, 8, MIN, MAX};
    private static final int[] NO_POINT = {-1, 120, MIN, MAX};
    private static final int[] NO_SORT = {-1, 2, MIN, MAX};
    private static final int[] NO_SET = {-1, 16, MIN, MAX};
    private static final int[] NO_MONTH = {-1, 12, MIN, MAX};
    private static final int[] NO_HOUR = {-1, 12, MIN, MAX};

    private RefusalsTest() {
    }

    public static void main(String[] args) {
        rows();
        sets();
        copies();
        layings();
        says();
        sorts();
        places();
        stands();
        windows();
        shops();
        asks();
        streets();
        toldOfSortsAndPlaces();
        lamps();
        outs();
        lights();
        judgedByRules();
        sets("25 coin", (x, set, sort) -> x.coin(set, sort));
        chosen();
        bounds();
        reaches();
        shades();
        spills();
        dimsAndBulbs();
        sets("37 moved", (x, set, sort) -> x.moved(set, sort));
        sets("38 lay", (x, set, sort) -> x.lay(set, sort));
        judges();
        restores();
        neverRefused();
        noneIsNoRefusal();
        manyRefusals();
        due.end();
    }

    // ---- help

    /** 2 SORTS, 4 PLACES (the last one free), some of each other thing, an IMAGE, a FAULT and a TRACE. */
    private static LightAlong scene() {
        LightAlong x = new LightAlong();
        x.ask(0, 30);
        x.ask(1, 50);
        x.ask(2, 2);
        x.ask(3, 9);
        x.sort(2, 40, 7, 6);
        x.sort(3, 9, 1, 2);
        for (int p = 0; p < 4; p++) x.place(p * 5, 4 - p);
        x.stand(0, 2);
        x.stand(1, 14);
        x.stand(2, 11);
        x.window(3, 500);
        x.shop(4, 60, 5);
        x.lamp(0, 0);
        x.lamp(1, 1);
        x.image();
        x.lamp(2, 1);
        x.out(1, true);
        x.laying(LAID, 0, 0);
        x.row(INTS, 2, 5);
        x.row(BYTES, 0, 5);
        x.row(FEW, 2, 3);
        for (int i = 0; i < 5; i++) {
            x.set(INTS, i, 70 + i);
            x.set(BYTES, i, 80 + i);
            x.set(FEW, i % 3, 90 + i);
        }
        x.laying(TURN, 3, 1);
        x.laying(THERE, 5, 0);
        Streets.letters(x, TEXT, 3, "tree x");
        x.street(TEXT);
        x.act(TURN, 1, 5);
        return x;
    }

    /** A scene with no room left for anything. */
    private static LightAlong full() {
        LightAlong x = scene();
        for (int i = 2; i < 6; i++) x.sort(1, 1, 1, 1);
        for (int i = 4; i < 9; i++) x.place(i, 1);
        for (int i = 1; i < 12; i++) {
            x.stand(0, i);
            x.stand(1, i + 60);
            x.window(i, 999);
        }
        for (int i = 1; i < 8; i++) x.shop(i, 9, 9);
        for (int i = 1; i < 6; i++) x.stand(2, i + 90);
        return x;
    }

    /** A scene in which no set of PLACES is WELL. */
    private static LightAlong hopeless() {
        LightAlong x = scene();
        x.ask(0, 999);
        x.ask(1, 1);
        x.ask(3, 60);
        return x;
    }

    /** All that can be told of an object, REFUSALS aside. The object is used up by it. */
    private static List<Long> told(LightAlong x) {
        List<Long> told = new ArrayList<>();
        for (int what = 0; what <= 9; what++) told.add((long) x.status(what));
        told.add((long) x.fault());
        for (int i = 0; i < 8; i++) told.add((long) x.trace(i));
        for (int s = 0; s < 8; s++) told.add((long) x.holds(s));
        for (int s : new int[] {INTS, BYTES, FEW, TEXT}) {
            for (int i = 0; i < 6; i++) told.add(x.element(s, i));
        }
        told.add((long) x.says(LAID, 2));
        told.add((long) x.says(TURN, 3));
        told.add((long) x.says(THERE, 5));
        for (int sort = 0; sort < 3; sort++) {
            for (int what = 0; what < 4; what++) told.add((long) x.sortOf(sort, what));
        }
        tellPlaces(x, told);
        for (int point = 0; point < 24; point++) told.add((long) x.light(LAID, point, 6, 0));
        told.add((long) x.faulty(LAID, 0, 0));
        told.add((long) x.bulbs(240, false));
        for (int what = 0; what < 4; what++) told.add((long) x.ask(what, 9));
        told.add((long) x.restore());
        for (int what = 0; what <= 9; what++) told.add((long) x.status(what));
        tellPlaces(x, told);
        return told;
    }

    private static void tellPlaces(LightAlong x, List<Long> told) {
        for (int place = 0; place < 5; place++) {
            for (int what = 0; what < 4; what++) told.add((long) x.placeOf(place, what));
        }
    }

    private static void no(int answer, String call, Call refused) {
        no(answer, call, RefusalsTest::scene, refused);
    }

    private static void no(int answer, String call, Supplier<LightAlong> scene, Call refused) {
        LightAlong x = scene.get();
        LightAlong y = scene.get();
        due.is(call, refused.on(x), answer);
        int counted = answer < -10 ? -answer - 10 : -answer;
        sameBut(call, x, y, counted);
    }

    /** Two objects are alike, but that one has one REFUSAL more of a number (0: none more). */
    private static void sameBut(String call, LightAlong x, LightAlong y, int counted) {
        for (int n = 1; n <= 7; n++) {
            due.is(call + ", REFUSALS -" + n, x.status(10 + n) - y.status(10 + n), n == counted ? 1 : 0);
        }
        due.holds(call + ", nothing else changes", told(x).equals(told(y)));
    }

    // ---- SHELVES

    private static void rows() {
        due.about("2 row");
        for (int s : NO_SHELF) {
            no(-1, "shelf " + s, x -> x.row(s, 0, 1));
            no(-1, "shelf " + s + " beside size", x -> x.row(s, 0, -1));
            no(-1, "shelf " + s + " beside sort", x -> x.row(s, 4, 1));
            no(-1, "shelf " + s + " beside room", x -> x.row(s, 0, 121));
        }
        for (int n : new int[] {-1, MIN}) {
            no(-4, "size " + n, x -> x.row(INTS, 0, n));
            no(-4, "size " + n + " beside sort", x -> x.row(INTS, 4, n));
        }
        for (int sort : new int[] {-1, 4, MIN, MAX}) {
            no(-6, "sort " + sort, x -> x.row(INTS, sort, 1));
            no(-6, "sort " + sort + " beside room", x -> x.row(INTS, sort, 121));
        }
        for (int s = 0; s < 8; s++) {
            int shelf = s;
            no(-7, "room in shelf " + s, x -> x.row(shelf, 3, 121));
        }
        no(-7, "far beyond room", x -> x.row(INTS, 0, MAX));
    }

    private static void sets() {
        due.about("3 set");
        for (int s : NO_SHELF) {
            no(-1, "shelf " + s, x -> x.set(s, 0, 5));
            no(-1, "shelf " + s + " beside element", x -> x.set(s, -1, 5));
        }
        for (int s : new int[] {LAID, TURN, THERE}) {
            no(-2, "a laying in " + s, x -> x.set(s, 0, 5));
            no(-2, "a laying beside element", x -> x.set(s, -1, 5));
        }
        no(-3, "nothing", x -> x.set(EMPTY, 0, 5));
        no(-3, "nothing beside element", x -> x.set(EMPTY, 120, 5));
        for (int i : new int[] {-1, 5, 119, 120, MIN, MAX}) no(-5, "element " + i, x -> x.set(INTS, i, 5));
        no(-5, "element 3 of 3", x -> x.set(FEW, 3, 5));
    }

    private static void copies() {
        due.about("4 copy -1");
        for (int s : NO_SHELF) {
            no(-1, "from " + s, x -> x.copy(s, INTS, 0, 0, 1));
            no(-1, "to " + s, x -> x.copy(INTS, s, 0, 0, 1));
            no(-1, "from " + s + " beside a laying", x -> x.copy(s, LAID, 0, 0, 1));
            no(-1, "to " + s + " beside a laying", x -> x.copy(LAID, s, 0, 0, 1));
            no(-1, "from " + s + " beside nothing", x -> x.copy(s, EMPTY, 0, 0, 1));
            no(-1, "to " + s + " beside nothing", x -> x.copy(EMPTY, s, 0, 0, 1));
            no(-1, "from " + s + " beside size", x -> x.copy(s, INTS, 0, 0, -1));
            no(-1, "to " + s + " beside an end", x -> x.copy(INTS, s, 0, 0, 6));
        }
        due.about("4 copy -2");
        no(-2, "from a laying", x -> x.copy(LAID, INTS, 0, 0, 1));
        no(-2, "to a laying", x -> x.copy(INTS, TURN, 0, 0, 1));
        no(-2, "between layings", x -> x.copy(LAID, TURN, 0, 0, 1));
        no(-2, "of two sorts", x -> x.copy(INTS, BYTES, 0, 0, 1));
        no(-2, "of two sorts, none", x -> x.copy(BYTES, INTS, 0, 0, 0));
        no(-2, "from a laying beside nothing", x -> x.copy(LAID, EMPTY, 0, 0, 1));
        no(-2, "to a laying beside nothing", x -> x.copy(EMPTY, LAID, 0, 0, 1));
        no(-2, "a laying beside size", x -> x.copy(LAID, INTS, 0, 0, -1));
        no(-2, "a laying beside i", x -> x.copy(INTS, LAID, -1, 0, 1));
        no(-2, "two sorts beside size", x -> x.copy(INTS, BYTES, 0, 0, -1));
        no(-2, "two sorts beside i", x -> x.copy(INTS, BYTES, -1, 0, 1));
        no(-2, "two sorts beside an end", x -> x.copy(INTS, BYTES, 0, 0, 6));
        due.about("4 copy -3");
        no(-3, "from nothing", x -> x.copy(EMPTY, INTS, 0, 0, 1));
        no(-3, "to nothing", x -> x.copy(INTS, EMPTY, 0, 0, 1));
        no(-3, "nothing to itself", x -> x.copy(EMPTY, EMPTY, 0, 0, 0));
        no(-3, "from nothing beside size", x -> x.copy(EMPTY, INTS, 0, 0, -1));
        no(-3, "to nothing beside size", x -> x.copy(INTS, EMPTY, 0, 0, -1));
        no(-3, "from nothing beside i", x -> x.copy(EMPTY, INTS, -1, 0, 1));
        no(-3, "to nothing beside j", x -> x.copy(INTS, EMPTY, 0, -1, 1));
        due.about("4 copy -4");
        for (int n : new int[] {-1, MIN}) {
            no(-4, "size " + n, x -> x.copy(INTS, FEW, 0, 0, n));
            no(-4, "size " + n + " beside i", x -> x.copy(INTS, FEW, -1, 0, n));
            no(-4, "size " + n + " beside j", x -> x.copy(INTS, FEW, 0, 4, n));
        }
        copiesBeyond();
    }

    private static void copiesBeyond() {
        due.about("4 copy -5");
        for (int n : new int[] {0, 1}) {
            no(-5, "i below, of " + n, x -> x.copy(INTS, FEW, -1, 0, n));
            no(-5, "j below, of " + n, x -> x.copy(INTS, FEW, 0, -1, n));
            no(-5, "i far below, of " + n, x -> x.copy(INTS, FEW, MIN, 0, n));
            no(-5, "j far below, of " + n, x -> x.copy(INTS, FEW, 0, MIN, n));
        }
        no(-5, "the end of i", x -> x.copy(INTS, FEW, 3, 0, 3));
        no(-5, "the end of j", x -> x.copy(INTS, FEW, 0, 1, 3));
        no(-5, "more than i has", x -> x.copy(FEW, INTS, 0, 0, 4));
        no(-5, "more than j has", x -> x.copy(INTS, FEW, 0, 0, 4));
        no(-5, "i behind the end, of 0", x -> x.copy(INTS, FEW, 6, 0, 0));
        no(-5, "j behind the end, of 0", x -> x.copy(INTS, FEW, 0, 4, 0));
        no(-5, "far too many", x -> x.copy(INTS, INTS, 1, 1, MAX));
        no(-5, "far behind", x -> x.copy(INTS, INTS, MAX, MAX, MAX));
        no(-5, "far behind, of 0", x -> x.copy(INTS, INTS, MAX, 0, 0));
    }

    private static void layings() {
        due.about("6 laying");
        for (int s : NO_SHELF) {
            no(-1, "shelf " + s, x -> x.laying(s, 0, 0));
            no(-1, "shelf " + s + " for NOTHING", x -> x.laying(s, -1, 0));
            no(-1, "shelf " + s + " beside a", x -> x.laying(s, 1, 2));
        }
        for (int kind : new int[] {-2, 7, MIN, MAX}) {
            no(-1, "kind " + kind, x -> x.laying(LAID, kind, 0));
            no(-1, "kind " + kind + " beside a", x -> x.laying(EMPTY, kind, 512));
        }
        int[][] bounds = {{1, 1}, {3, 1}, {4, 11}, {6, 511}};
        for (int[] b : bounds) {
            for (int a : new int[] {-1, b[1] + 1, MIN, MAX}) {
                no(-6, "a " + a + " of kind " + b[0], x -> x.laying(LAID, b[0], a));
            }
        }
    }

    private static void says() {
        due.about("8 says");
        for (int s : NO_SHELF) {
            no(-1, "shelf " + s, x -> x.says(s, 0));
            no(-1, "shelf " + s + " beside another kind", x -> x.says(s, 6));
        }
        for (int kind : new int[] {-1, 7, MIN, MAX}) {
            no(-1, "kind " + kind, x -> x.says(LAID, kind));
            no(-1, "kind " + kind + " beside a row", x -> x.says(INTS, kind));
            no(-1, "kind " + kind + " beside nothing", x -> x.says(EMPTY, kind));
        }
        for (int kind = 0; kind < 7; kind++) {
            int k = kind;
            no(-2, "a row as " + kind, x -> x.says(INTS, k));
            no(-3, "nothing as " + kind, x -> x.says(EMPTY, k));
        }
        for (int kind = 1; kind < 7; kind++) {
            int k = kind;
            no(-2, "LAYING as " + kind, x -> x.says(LAID, k));
        }
    }

    // ---- the street

    private static void sorts() {
        due.about("9 sort");
        for (int v : new int[] {0, 13, MIN, MAX}) wrongSort("HEIGHT " + v, v, 1, 1, 1);
        for (int v : new int[] {0, 100, MIN, MAX}) wrongSort("POWER " + v, 1, v, 1, 1);
        for (int v : new int[] {-1, 100, MIN, MAX}) wrongSort("COIN " + v, 1, 1, v, 1);
        for (int v : new int[] {0, 100, MIN, MAX}) wrongSort("LIFE " + v, 1, 1, 1, v);
        no(-7, "room", RefusalsTest::full, x -> x.sort(1, 1, 1, 1));
        no(-7, "room for the greatest", RefusalsTest::full, x -> x.sort(12, 99, 99, 99));
    }

    private static void wrongSort(String call, int height, int power, int coin, int life) {
        no(-6, call, x -> x.sort(height, power, coin, life));
        no(-6, call + " beside room", RefusalsTest::full, x -> x.sort(height, power, coin, life));
    }

    private static void places() {
        due.about("10 place");
        for (int point : NO_POINT) {
            no(-1, "point " + point, x -> x.place(point, 0));
            no(-1, "point " + point + " beside wire", x -> x.place(point, -1));
            no(-1, "point " + point + " beside room", RefusalsTest::full, x -> x.place(point, 0));
        }
        for (int wire : new int[] {-1, 100, MIN, MAX}) {
            no(-6, "wire " + wire, x -> x.place(0, wire));
            no(-6, "wire " + wire + " beside room", RefusalsTest::full, x -> x.place(0, wire));
        }
        no(-7, "room", RefusalsTest::full, x -> x.place(119, 0));
    }

    private static void stands() {
        due.about("11 stand");
        for (int kind : new int[] {-1, 3, MIN, MAX}) {
            no(-1, "kind " + kind, x -> x.stand(kind, 0));
            no(-1, "kind " + kind + " beside point", x -> x.stand(kind, 120));
            no(-1, "kind " + kind + " beside room", RefusalsTest::full, x -> x.stand(kind, 0));
        }
        for (int kind = 0; kind < 3; kind++) {
            int k = kind;
            for (int point : NO_POINT) {
                no(-1, "point " + point + " of " + kind, x -> x.stand(k, point));
                no(-1, "point " + point + " beside room", RefusalsTest::full, x -> x.stand(k, point));
            }
            no(-7, "room of " + kind, RefusalsTest::full, x -> x.stand(k, 119));
        }
    }

    private static void windows() {
        due.about("12 window");
        for (int point : NO_POINT) {
            no(-1, "point " + point, x -> x.window(point, 0));
            no(-1, "point " + point + " beside bar", x -> x.window(point, 1000));
            no(-1, "point " + point + " beside room", RefusalsTest::full, x -> x.window(point, 0));
        }
        for (int bar : new int[] {-1, 1000, MIN, MAX}) {
            no(-6, "bar " + bar, x -> x.window(0, bar));
            no(-6, "bar " + bar + " beside room", RefusalsTest::full, x -> x.window(0, bar));
        }
        no(-7, "room", RefusalsTest::full, x -> x.window(119, 999));
    }

    private static void shops() {
        due.about("13 shop");
        for (int point : NO_POINT) {
            no(-1, "point " + point, x -> x.shop(point, 1, 0));
            no(-1, "point " + point + " beside light", x -> x.shop(point, 0, 0));
            no(-1, "point " + point + " beside hour", x -> x.shop(point, 1, 12));
            no(-1, "point " + point + " beside room", RefusalsTest::full, x -> x.shop(point, 1, 0));
        }
        for (int light : new int[] {0, 1000, MIN, MAX}) {
            no(-6, "light " + light, x -> x.shop(0, light, 0));
            no(-6, "light " + light + " beside room", RefusalsTest::full, x -> x.shop(0, light, 0));
        }
        for (int hour : NO_HOUR) {
            no(-6, "hour " + hour, x -> x.shop(0, 1, hour));
            no(-6, "hour " + hour + " beside room", RefusalsTest::full, x -> x.shop(0, 1, hour));
        }
        no(-7, "room", RefusalsTest::full, x -> x.shop(119, 999, 11));
    }

    private static void asks() {
        due.about("14 ask");
        for (int what : new int[] {-1, 4, MIN, MAX}) no(-6, "what " + what, x -> x.ask(what, 9));
        int[][] bounds = {{0, 999}, {1, 99}, {1, 12}, {1, 60}};
        for (int w = 0; w < 4; w++) {
            int what = w;
            for (int v : new int[] {bounds[w][0] - 1, bounds[w][1] + 1, MIN, MAX}) {
                no(-6, "what " + w + " of " + v, x -> x.ask(what, v));
            }
        }
    }

    private static void streets() {
        due.about("15 street");
        for (int s : NO_SHELF) no(-1, "shelf " + s, x -> x.street(s));
        for (int s : new int[] {LAID, TURN, THERE}) no(-2, "a laying in " + s, x -> x.street(s));
        no(-3, "nothing", x -> x.street(EMPTY));
        // The scene's FAULT is that of this text already.
        no(-6, "a fault", x -> x.street(TEXT));
        no(-6, "room", () -> withText("tree", full()), x -> x.street(TEXT));
        no(-6, "a number", () -> withText("tree 120", scene()), x -> x.street(TEXT));
        no(-6, "too early", () -> withText("tree 1;", scene()), x -> x.street(TEXT));
        no(-6, "no letters", () -> withText("", scene()), x -> x.street(TEXT));
    }

    /** The text has been read there once, so that its FAULT doesn't change any more. */
    private static LightAlong withText(String text, LightAlong x) {
        Streets.letters(x, TEXT, 0, text);
        x.street(TEXT);
        return x;
    }

    private static void toldOfSortsAndPlaces() {
        due.about("17 sortOf");
        for (int sort : NO_SORT) {
            no(-5, "sort " + sort, x -> x.sortOf(sort, 0));
            no(-5, "sort " + sort + " beside what", x -> x.sortOf(sort, 4));
        }
        for (int what : new int[] {-1, 4, MIN, MAX}) no(-5, "what " + what, x -> x.sortOf(1, what));
        no(-5, "no sorts", LightAlong::new, x -> x.sortOf(0, 0));
        due.about("18 placeOf");
        for (int place : new int[] {-1, 4, MIN, MAX}) {
            no(-5, "place " + place, x -> x.placeOf(place, 0));
            no(-5, "place " + place + " beside what", x -> x.placeOf(place, 4));
        }
        for (int what : new int[] {-1, 4, MIN, MAX}) no(-5, "what " + what, x -> x.placeOf(3, what));
        no(-5, "no places", LightAlong::new, x -> x.placeOf(0, 0));
    }

    private static void lamps() {
        due.about("19 lamp");
        for (int place : new int[] {-1, 4, MIN, MAX}) {
            no(-11, "place " + place, x -> x.lamp(place, 0));
            no(-11, "place " + place + " to be free", x -> x.lamp(place, -1));
            no(-11, "place " + place + " beside sort", x -> x.lamp(place, 2));
        }
        for (int sort : new int[] {-2, 2, MIN, MAX}) no(-11, "sort " + sort, x -> x.lamp(1, sort));
        no(-11, "no places", LightAlong::new, x -> x.lamp(0, -1));
    }

    private static void outs() {
        due.about("20 out");
        for (boolean is : new boolean[] {false, true}) {
            for (int place : new int[] {-1, 4, MIN, MAX}) no(-1, "place " + place, x -> x.out(place, is));
            no(-6, "free", x -> x.out(3, is));
            no(-6, "free in a full street", RefusalsTest::full, x -> x.out(8, is));
        }
    }

    // ---- light

    private interface LightCall {
        int on(LightAlong x, int s, int point, int month, int hour);
    }

    private static void lights() {
        lights("21 light", (x, s, point, month, hour) -> x.light(s, point, month, hour));
        lights("22 face", (x, s, point, month, hour) -> x.face(s, point, month, hour));
    }

    private static void lights(String about, LightCall c) {
        due.about(about);
        for (int s : NO_SHELF) {
            no(-1, "shelf " + s, x -> c.on(x, s, 0, 0, 0));
            no(-1, "shelf " + s + " beside month", x -> c.on(x, s, 0, 12, 0));
            no(-1, "shelf " + s + " beside hour", x -> c.on(x, s, 0, 0, 12));
        }
        for (int point : NO_POINT) {
            no(-1, "point " + point, x -> c.on(x, LAID, point, 0, 0));
            no(-1, "point " + point + " beside a row", x -> c.on(x, INTS, point, 0, 0));
            no(-1, "point " + point + " beside nothing", x -> c.on(x, EMPTY, point, 0, 0));
            no(-1, "point " + point + " beside month", x -> c.on(x, LAID, point, 12, 0));
            no(-1, "point " + point + " beside hour", x -> c.on(x, LAID, point, 0, -1));
        }
        no(-2, "a row", x -> c.on(x, INTS, 0, 0, 0));
        no(-2, "a row beside month", x -> c.on(x, INTS, 0, -1, 0));
        no(-2, "a row beside hour", x -> c.on(x, INTS, 0, 0, 12));
        no(-3, "nothing", x -> c.on(x, EMPTY, 0, 0, 0));
        no(-3, "nothing beside month", x -> c.on(x, EMPTY, 0, 12, 0));
        no(-3, "nothing beside hour", x -> c.on(x, EMPTY, 0, 0, -1));
        for (int month : NO_MONTH) no(-6, "month " + month, x -> c.on(x, LAID, 119, month, 11));
        for (int hour : NO_HOUR) no(-6, "hour " + hour, x -> c.on(x, LAID, 119, 11, hour));
    }

    private static void judgedByRules() {
        rules("23 faulty", 0, (x, s, point, month, hour) -> x.faulty(s, month, hour));
        rules("24 dark", 10, (x, s, point, month, hour) -> x.dark(s, month, hour));
    }

    private static void rules(String about, int apart, LightCall c) {
        due.about(about);
        for (int s : NO_SHELF) {
            no(-1 - apart, "shelf " + s, x -> c.on(x, s, 0, 0, 0));
            no(-1 - apart, "shelf " + s + " beside month", x -> c.on(x, s, 0, 12, 0));
            no(-1 - apart, "shelf " + s + " beside hour", x -> c.on(x, s, 0, 0, 12));
        }
        no(-2 - apart, "a row", x -> c.on(x, INTS, 0, 0, 0));
        no(-2 - apart, "a row beside month", x -> c.on(x, INTS, 0, -1, 0));
        no(-2 - apart, "a row beside hour", x -> c.on(x, BYTES, 0, 0, 12));
        no(-3 - apart, "nothing", x -> c.on(x, EMPTY, 0, 0, 0));
        no(-3 - apart, "nothing beside month", x -> c.on(x, EMPTY, 0, 12, 0));
        no(-3 - apart, "nothing beside hour", x -> c.on(x, EMPTY, 0, 0, -1));
        for (int month : NO_MONTH) no(-6 - apart, "month " + month, x -> c.on(x, LAID, 0, month, 11));
        for (int hour : NO_HOUR) no(-6 - apart, "hour " + hour, x -> c.on(x, LAID, 0, 11, hour));
    }

    private static void shades() {
        due.about("33 shade");
        for (int s : NO_SHELF) {
            no(-11, "shelf " + s, x -> x.shade(s, 0, 0));
            no(-11, "shelf " + s + " beside month", x -> x.shade(s, 0, 12));
        }
        for (int point : NO_POINT) {
            no(-11, "point " + point, x -> x.shade(LAID, point, 0));
            no(-11, "point " + point + " beside a row", x -> x.shade(INTS, point, 0));
            no(-11, "point " + point + " beside nothing", x -> x.shade(EMPTY, point, 0));
            no(-11, "point " + point + " beside month", x -> x.shade(LAID, point, -1));
        }
        no(-12, "a row", x -> x.shade(INTS, 0, 0));
        no(-12, "a row beside month", x -> x.shade(INTS, 0, 12));
        no(-13, "nothing", x -> x.shade(EMPTY, 0, 0));
        no(-13, "nothing beside month", x -> x.shade(EMPTY, 0, -1));
        for (int month : NO_MONTH) no(-16, "month " + month, x -> x.shade(LAID, 119, month));
    }

    // ---- layings chosen

    private interface SetCall {
        int on(LightAlong x, int set, int sort);
    }

    private static void sets(String about, SetCall c) {
        due.about(about);
        for (int sort : NO_SORT) {
            no(-1, "sort " + sort, x -> c.on(x, 1, sort));
            no(-1, "sort " + sort + " of the empty set", x -> c.on(x, 0, sort));
            no(-1, "sort " + sort + " beside places", x -> c.on(x, 16, sort));
        }
        for (int set : NO_SET) no(-1, "places " + set, x -> c.on(x, set, 1));
        no(-1, "places behind a full street", RefusalsTest::full, x -> c.on(x, 512, 1));
        no(-1, "no places", RefusalsTest::oneSort, x -> c.on(x, 1, 0));
        no(-1, "no sorts", LightAlong::new, x -> c.on(x, 0, 0));
    }

    private interface ChoiceCall {
        int on(LightAlong x, int sort, int month);
    }

    private static LightAlong oneSort() {
        LightAlong x = new LightAlong();
        x.sort(1, 1, 1, 1);
        return x;
    }

    private static void chosen() {
        chosen("26 cheapest", (x, sort, month) -> x.cheapest(sort, month));
        chosen("27 fewest", (x, sort, month) -> x.fewest(sort, month));
        chosen("28 firm", (x, sort, month) -> x.firm(sort, month));
        due.about("30 which");
        no(-5, "none", RefusalsTest::hopeless, x -> x.which(0));
        no(-5, "no sorts", LightAlong::new, x -> x.which(11));
        for (int month : NO_MONTH) {
            no(-6, "month " + month, x -> x.which(month));
            no(-6, "month " + month + " beside none", RefusalsTest::hopeless, x -> x.which(month));
            no(-6, "month " + month + " beside no sorts", LightAlong::new, x -> x.which(month));
        }
    }

    private static void chosen(String about, ChoiceCall c) {
        due.about(about);
        for (int sort : NO_SORT) {
            no(-1, "sort " + sort, x -> c.on(x, sort, 0));
            no(-1, "sort " + sort + " beside none", RefusalsTest::hopeless, x -> c.on(x, sort, 0));
            no(-1, "sort " + sort + " beside month", x -> c.on(x, sort, 12));
        }
        no(-1, "no sorts", LightAlong::new, x -> c.on(x, 0, 0));
        for (int sort = 0; sort < 2; sort++) {
            int s = sort;
            no(-5, "none by " + sort, RefusalsTest::hopeless, x -> c.on(x, s, 11));
        }
        for (int month : NO_MONTH) {
            no(-6, "month " + month, x -> c.on(x, 0, month));
            no(-6, "month " + month + " beside none", RefusalsTest::hopeless, x -> c.on(x, 0, month));
        }
    }

    private static void bounds() {
        due.about("29 bound");
        for (int sort : NO_SORT) {
            no(-11, "sort " + sort, x -> x.bound(sort, 0));
            no(-11, "sort " + sort + " beside month", x -> x.bound(sort, -1));
        }
        for (int month : NO_MONTH) no(-16, "month " + month, x -> x.bound(1, month));
    }

    private static void reaches() {
        due.about("31 reach");
        for (int sort : NO_SORT) no(-11, "sort " + sort, x -> x.reach(sort));
        no(-11, "no sorts", LightAlong::new, x -> x.reach(0));
    }

    private static void spills() {
        due.about("34 spill");
        for (int shop : new int[] {-1, 1, MIN, MAX}) {
            no(-1, "shop " + shop, x -> x.spill(shop, 0));
            no(-1, "shop " + shop + " beside month", x -> x.spill(shop, 12));
        }
        no(-1, "no shops", LightAlong::new, x -> x.spill(0, 0));
        no(-1, "a shop behind a full street", RefusalsTest::full, x -> x.spill(8, 0));
        for (int month : NO_MONTH) no(-6, "month " + month, x -> x.spill(0, month));
    }

    private static void dimsAndBulbs() {
        due.about("35 dim");
        for (int month : NO_MONTH) no(-16, "month " + month, x -> x.dim(month));
        due.about("36 bulbs");
        for (boolean together : new boolean[] {false, true}) {
            for (int n : new int[] {0, -1, 241, MIN, MAX}) no(-6, "months " + n, x -> x.bulbs(n, together));
        }
    }

    private static void judges() {
        due.about("39 judge");
        for (int s : NO_SHELF) {
            no(-11, "laying " + s, x -> x.judge(s, INTS, 0));
            no(-11, "row " + s, x -> x.judge(LAID, s, 0));
            no(-11, "laying " + s + " beside a laying", x -> x.judge(s, LAID, 0));
            no(-11, "row " + s + " beside a row", x -> x.judge(INTS, s, 0));
            no(-11, "laying " + s + " beside nothing", x -> x.judge(s, EMPTY, 0));
            no(-11, "row " + s + " beside nothing", x -> x.judge(EMPTY, s, 0));
            no(-11, "laying " + s + " beside month", x -> x.judge(s, INTS, 12));
            no(-11, "row " + s + " beside month", x -> x.judge(LAID, s, 12));
        }
        no(-12, "two rows", x -> x.judge(INTS, BYTES, 0));
        no(-12, "two layings", x -> x.judge(LAID, TURN, 0));
        no(-12, "the other way about", x -> x.judge(INTS, LAID, 0));
        no(-12, "a row beside nothing", x -> x.judge(INTS, EMPTY, 0));
        no(-12, "a laying beside nothing", x -> x.judge(EMPTY, LAID, 0));
        no(-12, "two rows beside month", x -> x.judge(INTS, INTS, 12));
        no(-12, "two layings beside month", x -> x.judge(LAID, LAID, 12));
        no(-13, "no laying", x -> x.judge(EMPTY, INTS, 0));
        no(-13, "no row", x -> x.judge(LAID, EMPTY, 0));
        no(-13, "neither", x -> x.judge(EMPTY, EMPTY, 0));
        no(-13, "no laying beside month", x -> x.judge(EMPTY, INTS, -1));
        no(-13, "no row beside month", x -> x.judge(LAID, EMPTY, -1));
        for (int month : NO_MONTH) no(-16, "month " + month, x -> x.judge(LAID, INTS, month));
    }

    private static void restores() {
        due.about("43 restore");
        no(-6, "no image", LightAlong::new, LightAlong::restore);
    }

    // ---- what is no refusal

    private static void fine(String call, long answer, Call c) {
        LightAlong x = scene();
        LightAlong y = scene();
        due.is(call, c.on(x), answer);
        sameBut(call, x, y, 0);
    }

    private static void neverRefused() {
        due.about("5 element: nothing is refused");
        for (int s : NO_SHELF) fine("shelf " + s, 0, x -> x.element(s, 0));
        fine("a laying", 0, x -> x.element(LAID, 0));
        fine("nothing", 0, x -> x.element(EMPTY, 0));
        for (int i : new int[] {-1, 5, 119, 120, MIN, MAX}) fine("element " + i, 0, x -> x.element(INTS, i));
        fine("the last", 74, x -> x.element(INTS, 4));
        due.about("7 holds: no such SHELF");
        for (int s : NO_SHELF) fine("shelf " + s, -1, x -> x.holds(s));
        due.about("41 trace: none such");
        // TURN falls: 40, 30, 11, 41, 10.
        for (int i : new int[] {-1, 5, 19, 20, MIN, MAX}) fine("trace " + i, -1, x -> x.trace(i));
        fine("trace 4", 10, x -> x.trace(4));
        due.about("44 status: another what");
        for (int what : new int[] {-1, 10, 18, MIN, MAX}) fine("what " + what, -1, x -> x.status(what));
        due.about("16 fault");
        fine("fault", 5, LightAlong::fault);
        due.about("40 act: none there, no such act");
        for (int s : NO_SHELF) emptiesTrace("shelf " + s, x -> x.act(s, 0, 5));
        for (int s : new int[] {INTS, BYTES, EMPTY, TEXT}) emptiesTrace("no laying in " + s, x -> x.act(s, 0, 5));
        for (int act : new int[] {-1, 3, MIN, MAX}) emptiesTrace("act " + act, x -> x.act(TURN, act, 5));
    }

    private static void emptiesTrace(String call, Call c) {
        LightAlong x = scene();
        LightAlong y = scene();
        due.is(call, c.on(x), 0);
        due.is(call + ", bodies", x.status(9), 0);
        due.is(call + ", trace", x.trace(0), -1);
        x.act(TURN, 1, 5);
        sameBut(call, x, y, 0);
    }

    private static void noneIsNoRefusal() {
        due.about("NONE is no refusal");
        LightAlong x = new LightAlong();
        x.sort(12, 1, 0, 1);
        x.laying(0, 0, 0);
        x.row(1, 0, 0);
        due.is("bound", x.bound(0, 0), -1);
        due.is("reach", x.reach(0), -1);
        due.is("shade", x.shade(0, 0, 0), -1);
        due.is("dim", x.dim(0), -1);
        due.is("judge", x.judge(0, 1, 0), -1);
        x.place(0, 0);
        due.is("lamp", x.lamp(0, 0), -1);
        due.is("placeOf a free one", x.lamp(0, -1) + x.placeOf(0, 2), -1);
        x.ask(0, 0);
        due.is("dark", x.dark(0, 0, 0), -1);
        due.is("fault", x.fault(), -1);
        for (int n = 1; n <= 7; n++) due.is("REFUSALS -" + n, x.status(10 + n), 0);
    }

    private static void manyRefusals() {
        due.about("44 REFUSALS add up, those of -11 to -16 with those of -1 to -6");
        LightAlong x = new LightAlong();
        x.sort(1, 1, 1, 1);
        x.laying(0, 0, 0);
        x.row(1, 0, 0);
        for (int i = 0; i < 20; i++) {
            x.row(-1, 0, 0);
            x.bound(1, 0);
            x.light(1, 0, 0, 0);
            x.dark(1, 0, 0);
            x.says(2, 0);
            x.shade(2, 0, 0);
            x.row(0, 0, -1);
            x.sortOf(1, 0);
            x.ask(4, 0);
            x.dim(12);
            x.row(0, 0, 121);
        }
        int[] times = {40, 40, 40, 20, 20, 40, 20};
        for (int n = 1; n <= 7; n++) due.is("REFUSALS -" + n, x.status(10 + n), times[n - 1]);
    }
}
