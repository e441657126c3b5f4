/** What 'LAYINGS CHOSEN' bounds, a test for each sentence: no set and all, just enough, equals, none. */
public final class ChosenEdgesTest {
    private static final Due due = new Due();
    private static final int MAX = Integer.MAX_VALUE;
    private static final int MIN = Integer.MIN_VALUE;

    private ChosenEdgesTest() {
    }

    public static void main(String[] args) {
        coinOfSets();
        theEmptySet();
        noPlaces();
        allPlaces();
        leastJustSo();
        poolJustSo();
        evenJustSo();
        windowJustSo();
        atHourNought();
        inAMonth();
        withinLong();
        leastCoinThenLeastBits();
        fewestLampsThenCoinThenBits();
        whatStandsDoesNotMatter();
        firmWithoutAnyOne();
        firmMustBeWell();
        boundJustSo();
        boundOfNoneAndOfAll();
        boundCountsShops();
        boundLeavesPoolsAside();
        whichOfSeveral();
        reachJustSo();
        reachAtItsEnds();
        reachWithoutAnythingElse();
        worstOfSeveral();
        worstOfEachSeason();
        worstPoolsAside();
        worstAtHourNought();
        shadeOfSeveral();
        shadeOfNone();
        shadeByKinds();
        spillJustSo();
        spillOfAllPoints();
        spillAtHourNought();
        spillByTheLaying();
        dimFirstHour();
        dimToTheEnd();
        dimIsHalf();
        bulbsOfMonths();
        bulbsOfNoLamps();
        bulbsTogether();
        bulbsOfManyLamps();
        movedPlaces();
        laidSets();
        due.end();
    }

    // ---- COIN

    private static void coinOfSets() {
        due.about("25 COIN of a set of PLACES by a SORT");
        LightAlong x = Streets.along("sort 1 1 0 1;sort 1 1 99 1");
        due.is("no PLACES, the empty set", x.coin(0, 0), 0);
        due.is("no PLACES, one", x.coin(1, 0), -1);
        for (int p = 0; p < 9; p++) x.place(p, p == 8 ? 0 : 99);
        due.is("the empty set", x.coin(0, 1), 0);
        due.is("the first", x.coin(1, 1), 198);
        due.is("the last", x.coin(256, 1), 99);
        due.is("the last by COIN 0", x.coin(256, 0), 0);
        due.is("all", x.coin(511, 1), 8 * 198 + 99);
        due.is("all by COIN 0", x.coin(511, 0), 8 * 99);
        for (int set : new int[] {-1, 512, MIN, MAX}) due.is("set " + set, x.coin(set, 0), -1);
        for (int sort : new int[] {-1, 2, MIN, MAX}) due.is("sort " + sort, x.coin(0, sort), -1);
        due.is("COIN doesn't need lamps", x.status(2), 0);
    }

    // ---- CHEAPEST, FEWEST, FIRM

    private static void chosen(LightAlong x, String call, int cheapest, int fewest, int firm) {
        chosenIn(x, 0, call, cheapest, fewest, firm);
    }

    private static void chosenIn(LightAlong x, int month, String call, int cheapest, int fewest, int firm) {
        due.is(call + ", CHEAPEST", x.cheapest(0, month), cheapest);
        due.is(call + ", FEWEST", x.fewest(0, month), fewest);
        due.is(call + ", FIRM", x.firm(0, month), firm);
        due.is(call + ", which", x.which(month), cheapest < 0 ? -5 : 0);
    }

    private static void theEmptySet() {
        due.about("of all sets of PLACES: the empty one too");
        String base = "sort 1 1 0 1;place 0 0;place 1 0;long 1;even 99;shop 0 9 1;shop 1 9 1;least ";
        chosen(Streets.along(base + "9"), "SHOPS are enough", 0, 0, 0);
        chosen(Streets.along(base + "10"), "SHOPS aren't", 1, 1, 3);
    }

    private static void noPlaces() {
        due.about("no PLACES: the empty set alone");
        LightAlong x = Streets.along("sort 1 1 0 1;long 1;least 1");
        chosen(x, "dark", -5, -5, -5);
        x.ask(0, 0);
        chosen(x, "LEAST 0", 0, 0, 0);
    }

    /** Each lamp gives POINT 0 111 and POINT 1 6; so nine give 999. */
    private static LightAlong nine(String wires, int places) {
        LightAlong x = Streets.along("sort 3 1 1 1;long 1;wide 12;even 99;shop 1 999 1");
        for (int p = 0; p < places; p++) x.place(0, wires.charAt(p) - '0');
        return x;
    }

    private static void allPlaces() {
        due.about("of all sets of PLACES: all nine too");
        LightAlong x = nine("000000000", 9);
        x.ask(0, 999);
        chosen(x, "all must burn", 511, 511, -5);
        x.ask(0, 888);
        chosen(x, "any eight", 255, 255, 511);
        x.ask(0, 889);
        chosen(x, "eight aren't enough", 511, 511, -5);
        x = nine("876543210", 9);
        x.ask(0, 888);
        chosen(x, "the dearest isn't needed", 510, 510, 511);
        x.ask(0, 111);
        chosen(x, "the cheapest one", 256, 256, 384);
    }

    private static void leastJustSo() {
        due.about("CHEAPEST is WELL: LIGHT is LEAST at least");
        LightAlong x = nine("11", 2);
        x.ask(0, 222);
        chosen(x, "just so", 3, 3, -5);
        x.ask(0, 223);
        chosen(x, "one more", -5, -5, -5);
        x.ask(0, 111);
        chosen(x, "half of it", 1, 1, 3);
        x.ask(0, 112);
        chosen(x, "more than half of it", 3, 3, -5);
    }

    private static void poolJustSo() {
        due.about("CHEAPEST is WELL: at a POOL it is 5 at most");
        String base = "sort 1 1 0 1;long 1;least 9;even 99;pool 1;shop 0 9 1;shop 1 ";
        chosen(Streets.along(base + "5 1"), "5", 0, 0, 0);
        chosen(Streets.along(base + "6 1"), "6", -5, -5, -5);
        // From across a lamp of HEIGHT 3 gives 1000 / 153, that is 6, one of HEIGHT 5 1000 / 169, that is 5.
        chosen(Streets.along("sort 3 1 0 1;place 0 0;long 1;least 9;even 99;wide 12;pool 1"), "a lamp's 6", -5, -5, -5);
        chosen(Streets.along("sort 5 1 0 1;place 0 0;long 1;least 9;even 99;wide 12;pool 1"), "a lamp's 5", 1, 1, -5);
    }

    private static void evenJustSo() {
        due.about("CHEAPEST is WELL: EVEN times the least LIGHT is no less than the greatest");
        String base = "sort 1 1 0 1;long 1;least 1;even 3;shop 0 20 1;shop 1 ";
        chosen(Streets.along(base + "60 1"), "60", 0, 0, 0);
        chosen(Streets.along(base + "61 1"), "61", -5, -5, -5);
        chosen(Streets.along(base + "61 1;pool 0"), "the least is a POOL that is too bright", -5, -5, -5);
        chosen(Streets.along("sort 1 1 0 1;long 1;least 1;even 1;shop 0 5 1;shop 1 61 1;pool 0"), "a POOL", 0, 0, 0);
    }

    private static void windowJustSo() {
        due.about("CHEAPEST is WELL: at each WINDOW it is no more than its BAR");
        String base = "sort 3 1 0 1;place 0 0;long 1;least 6;even 99;wide 12;window 0 ";
        chosen(Streets.along(base + "111"), "111", 1, 1, -5);
        chosen(Streets.along(base + "110"), "110", -5, -5, -5);
        chosen(Streets.along(base + "111;window 2 0"), "beyond LONG", 1, 1, -5);
        chosen(Streets.along(base + "111;window 1 5"), "at the last POINT", -5, -5, -5);
    }

    private static void atHourNought() {
        due.about("CHEAPEST .. at HOUR 0");
        String base = "sort 1 1 0 1;long 1;least 9;shop 0 9 1;shop 1 9 ";
        chosen(Streets.along(base + "1"), "SHOPS till 1", 0, 0, 0);
        chosen(Streets.along(base + "0"), "one till 0", -5, -5, -5);
        chosen(Streets.along(base + "11;window 0 8"), "too bright at HOUR 0", -5, -5, -5);
    }

    private static void inAMonth() {
        due.about("CHEAPEST .. in a MONTH");
        // At YARD 2 500, by LEAVES 1 to 3 375, 250 and 125; across 444, 333, 222 and 111.
        LightAlong x = Streets.along("long 3;least 126;even 99;wide 1;sort 2 4 0 1;place 0 0;tree 2;place 4 0");
        for (int month = 0; month < 12; month++) {
            boolean summer = month >= 5 && month <= 7;
            chosenIn(x, month, "month " + month, summer ? 3 : 1, summer ? 3 : 1, summer ? -5 : 3);
            due.is("BOUND in month " + month, x.bound(0, month), 1);
        }
    }

    private static void withinLong() {
        due.about("CHEAPEST, BOUND: YARDS 0 to LONG less 1 count");
        for (int yards : new int[] {2, 40, 59}) {
            LightAlong x = Streets.along("sort 12 99 0 1;place 0 0;wide 1;even 99;wall " + (2 * yards - 2));
            x.ask(3, yards);
            chosen(x, "the dark YARD is " + yards, 1, 1, -5);
            due.is("BOUND", x.bound(0, 0), 1);
            x.ask(3, yards + 1);
            chosen(x, "and counts", -5, -5, -5);
            due.is("BOUND", x.bound(0, 0), -1);
            x.ask(3, yards);
            chosen(x, "and doesn't again", 1, 1, -5);
            due.is("BOUND", x.bound(0, 0), 1);
        }
        LightAlong x = Streets.along("sort 12 99 0 1;place 0 0;place 118 0;wide 1;even 99;long 60;wall 116");
        chosen(x, "all 60 YARDS, by two", 3, 3, -5);
        due.is("BOUND", x.bound(0, 0), 1);
    }

    private static void leastCoinThenLeastBits() {
        due.about("of the least COIN, of several the least as bits");
        LightAlong x = nine("5432", 4);
        x.ask(0, 111);
        due.is("the least COIN", x.cheapest(0, 0), 8);
        x = nine("3223", 4);
        x.ask(0, 111);
        due.is("of two the least as bits", x.cheapest(0, 0), 2);
        x = nine("2332", 4);
        x.ask(0, 111);
        due.is("the first of all", x.cheapest(0, 0), 1);
        x = nine("3113", 4);
        x.ask(0, 222);
        due.is("two of them", x.cheapest(0, 0), 6);
        x = nine("2222", 4);
        x.ask(0, 333);
        due.is("three of four", x.cheapest(0, 0), 7);
        due.is("FIRM: four", x.firm(0, 0), 15);
        // At POINT 0: 200, 200 and 500.
        x = Streets.along("sort 1 1 0 1;long 1;even 99;least 400;shop 1 999 1;place 4 2;place 4 2;place 2 4");
        due.is("two lamps of the least bits, not one", x.cheapest(0, 0), 3);
        due.is("FEWEST: the one", x.fewest(0, 0), 4);
        x.ask(0, 200);
        due.is("FIRM: two of them", x.firm(0, 0), 3);
        x = Streets.along("sort 3 1 0 1;long 1;wide 12;even 99;least 6;place 0 0;place 1 0;place 0 0");
        due.is("COIN 0 of all sets", x.cheapest(0, 0), 1);
        due.is("FIRM of COIN 0", x.firm(0, 0), 3);
        x.ask(0, 111);
        due.is("both POINTS", x.cheapest(0, 0), 3);
        due.is("FIRM at both POINTS", x.firm(0, 0), -5);
    }

    private static void fewestLampsThenCoinThenBits() {
        due.about("FEWEST: of the fewest lamps, of several the least COIN, then the least as bits");
        // Each lamp gives its own POINT 111, the other one 6.
        LightAlong x = Streets.along("sort 3 1 0 1;long 1;wide 12;even 99;least 6;place 0 9;place 1 8;place 0 8");
        due.is("of one lamp, the least COIN, the least as bits", x.fewest(0, 0), 2);
        x.ask(0, 100);
        due.is("two lamps, the least COIN", x.fewest(0, 0), 6);
        x.ask(0, 0);
        due.is("no lamp", x.fewest(0, 0), 0);
        due.about("FEWEST isn't CHEAPEST");
        // A lamp gives its own YARD 111 and the other one 100.
        x = Streets.along("sort 3 1 0 1;long 2;wide 12;even 99;shop 1 900 1;shop 3 900 1;least 200;"
            + "place 0 1;place 2 1;place 2 90;place 0 90");
        // Two at YARD 0: 222 and 200; two at YARD 1: 200 and 222; one of each: 211 and 211.
        due.is("two of them", x.fewest(0, 0), 3);
        x.ask(0, 212);
        due.is("three of them, the least COIN", x.cheapest(0, 0), 7);
        due.is("as few", x.fewest(0, 0), 7);
        x = Streets.along("sort 2 4 0 6;even 99;long 1;wide 1;least 999;"
            + "place 0 90;place 4 9;place 5 9;place 4 9;place 0 91");
        // At POINT 0 and 1: 1000 and 800 of the dear ones, 500 and 444 or 444 and 500 of the others.
        due.is("three of 27", x.cheapest(0, 0), 14);
        due.is("two of 181", x.fewest(0, 0), 3);
    }

    private static void whatStandsDoesNotMatter() {
        due.about("with lamps of that SORT at these and none else");
        LightAlong x = nine("111", 3);
        x.ask(0, 222);
        x.sort(1, 99, 50, 1);
        x.lay(7, 1);
        chosen(x, "bright lamps stand", 3, 3, 7);
        due.is("BOUND", x.bound(0, 0), 2);
        x.out(0, true);
        chosen(x, "one is OUT", 3, 3, 7);
        x.lay(0, 0);
        chosen(x, "none stands", 3, 3, 7);
        due.is("none stands still", x.status(2), 0);
        x.lamp(0, 0);
        x.out(0, true);
        x.cheapest(0, 0);
        x.which(0);
        x.bound(0, 0);
        due.is("what stands, stands", x.placeOf(0, 3), 1);
        due.is("what is free, is free", x.placeOf(1, 2), -1);
    }

    private static void firmWithoutAnyOne() {
        due.about("FIRM: 1 and 2 hold also if any one of its lamps is OUT");
        LightAlong x = nine("123", 3);
        x.ask(0, 111);
        due.is("any one of two", x.firm(0, 0), 3);
        x.ask(0, 222);
        due.is("any one of three", x.firm(0, 0), 7);
        x.ask(0, 223);
        due.is("two aren't enough", x.firm(0, 0), -5);
        due.is("CHEAPEST is there", x.cheapest(0, 0), 7);
        due.about("FIRM: 3 and 4 needn't hold then");
        x = Streets.along("sort 2 40 0 6;least 100;even 2;long 3;wide 1;place 0 1;place 5 2");
        due.is("uneven with one OUT", x.firm(0, 0), 3);
        due.is("uneven alone", x.cheapest(0, 0), 3);
        due.about("FIRM: the empty set, if it is WELL");
        x.ask(0, 0);
        due.is("LEAST 0", x.firm(0, 0), 0);
    }

    private static void firmMustBeWell() {
        due.about("FIRM: (and it is WELL)");
        LightAlong x = nine("123", 3);
        x.ask(0, 111);
        x.window(0, 222);
        due.is("two are dark enough for the WINDOW", x.firm(0, 0), 3);
        x.window(0, 221);
        due.is("two aren't", x.firm(0, 0), -5);
        due.is("one is", x.cheapest(0, 0), 1);
        x = nine("123", 3);
        x.ask(0, 111);
        x.ask(1, 8);
        // POINT 1 gets 999 and 6 for each lamp: 1005 and 111, 1011 and 222, 1017 and 333.
        due.is("one is uneven", x.cheapest(0, 0), 3);
        due.is("two are even", x.firm(0, 0), 3);
        x.ask(1, 4);
        due.is("three are even", x.firm(0, 0), 7);
        x.ask(1, 3);
        due.is("none is", x.firm(0, 0), -5);
    }

    // ---- BOUND

    private static void boundJustSo() {
        due.about("29 BOUND: the least n for which the greatest n come to LEAST");
        LightAlong x = nine("000000000", 9);
        for (int n = 1; n <= 9; n++) {
            x.ask(0, 111 * n);
            due.is(n + " just so", x.bound(0, 0), n);
            if (n < 9) x.ask(0, 111 * n + 1);
            if (n < 9) due.is(n + " aren't enough", x.bound(0, 0), n + 1);
        }
        x = nine("00000000", 8);
        x.ask(0, 889);
        due.is("all eight aren't enough", x.bound(0, 0), -1);
        x.ask(0, 888);
        due.is("all eight are", x.bound(0, 0), 8);
        due.about("29 BOUND: the greatest single LIGHTS, at each POINT by itself");
        x = Streets.along("sort 1 1 0 1;long 1;wide 1;least 999;place 2 0;place 4 0;place 1 0;place 0 0");
        // At 0: 500, 200, 500, 1000; at 1: 333, 166, 1000, 500.
        due.is("one at each", x.bound(0, 0), 1);
        due.is("no one lamp for both", x.cheapest(0, 0), 5);
        due.about("29 BOUND: each lamp once, the greatest first");
        // At 0: 125, 250 and 200.
        x = Streets.along("sort 2 1 0 1;long 1;place 4 0;place 0 0;place 2 0;pool 1");
        int[][] bounds = {{1, 1}, {250, 1}, {251, 2}, {450, 2}, {451, 3}, {575, 3}, {576, -1}};
        for (int[] b : bounds) {
            x.ask(0, b[0]);
            due.is("LEAST " + b[0], x.bound(0, 0), b[1]);
        }
    }

    private static void boundOfNoneAndOfAll() {
        due.about("29 BOUND 0, and NONE: all don't");
        LightAlong x = Streets.along("sort 1 1 0 1;long 1;least 0");
        due.is("LEAST 0, no PLACES", x.bound(0, 0), 0);
        x.ask(0, 1);
        due.is("LEAST 1, no PLACES", x.bound(0, 0), -1);
        x.place(118, 0);
        due.is("a PLACE too far", x.bound(0, 0), -1);
        x.ask(0, 0);
        due.is("LEAST 0", x.bound(0, 0), 0);
        x = nine("0", 1);
        x.ask(0, 111);
        x.ask(3, 2);
        due.is("at the last POINT none", x.bound(0, 0), -1);
    }

    private static void boundCountsShops() {
        due.about("29 SHOPS counted");
        LightAlong x = nine("000", 3);
        x.ask(0, 333);
        due.is("without", x.bound(0, 0), 3);
        x.shop(0, 110, 1);
        due.is("one less isn't enough", x.bound(0, 0), 3);
        x.shop(0, 1, 1);
        due.is("just enough", x.bound(0, 0), 2);
        x.shop(0, 222, 0);
        due.is("till 0 doesn't count", x.bound(0, 0), 2);
        x.shop(0, 222, 1);
        due.is("no lamp", x.bound(0, 0), 0);
    }

    private static void boundLeavesPoolsAside() {
        due.about("29 at each POINT that must have LEAST");
        LightAlong x = nine("00", 2);
        x.ask(0, 223);
        due.is("POINT 0 doesn't", x.bound(0, 0), -1);
        x.stand(2, 0);
        due.is("a POOL needn't", x.bound(0, 0), 0);
        x = Streets.along("sort 1 1 0 1;long 1;wide 1;least 600;place 0 0;place 0 0");
        due.is("two for POINT 1", x.bound(0, 0), 2);
        x.stand(2, 1);
        due.is("one for POINT 0", x.bound(0, 0), 1);
        x.stand(2, 0);
        due.is("POOLS alone", x.bound(0, 0), 0);
    }

    // ---- which, REACH

    private static void whichOfSeveral() {
        due.about("30 which: the SORT whose CHEAPEST is of the least COIN, of several the first");
        LightAlong x = Streets.along("long 1;wide 1;even 99;least 100;place 0 5;sort 1 1 9 1;sort 1 1 8 1;sort 1 1 8 9");
        due.is("of two the first", x.which(0), 1);
        x.sort(12, 1, 0, 1);
        due.is("one that is never WELL", x.which(0), 1);
        due.is("indeed", x.cheapest(3, 0), -5);
        x.sort(1, 2, 7, 1);
        due.is("a cheaper one", x.which(0), 4);
        x.sort(1, 2, 0, 1);
        due.is("the last of six", x.which(0), 5);
        x.ask(0, 0);
        due.is("the empty set for all: the first", x.which(0), 0);
        x.ask(0, 999);
        x.ask(1, 1);
        due.is("none", x.which(0), -5);
        due.is("no SORTS", new LightAlong().which(0), -5);
        x = Streets.along("long 1;wide 1;even 99;least 100;place 0 5;sort 12 1 0 1;sort 1 1 99 1");
        due.is("the first is never WELL", x.which(0), 1);
    }

    private static void reachJustSo() {
        due.about("31 REACH: the greatest number of YARDS at which it gives LEAST");
        LightAlong x = Streets.along("sort 2 40 7 6");
        int[][] reached = {{999, 6}, {800, 6}, {769, 6}, {100, 19}, {99, 20}, {12, 57}};
        for (int[] r : reached) {
            x.ask(0, r[0]);
            due.is("LEAST " + r[0], x.reach(0), r[1]);
        }
    }

    private static void reachAtItsEnds() {
        due.about("31 REACH: 59 at most; NONE: not at 0");
        LightAlong x = Streets.along("sort 2 40 7 6;sort 12 1 0 1;sort 12 99 0 1");
        x.ask(0, 11);
        due.is("11 at 59", x.reach(0), 59);
        x.ask(0, 1);
        due.is("far beyond 59", x.reach(0), 59);
        x.ask(0, 0);
        for (int sort = 0; sort < 3; sort++) due.is("LEAST 0", x.reach(sort), 59);
        x.ask(0, 6);
        due.is("6 at 0 and 4", x.reach(1), 4);
        x.ask(0, 7);
        due.is("not at 0", x.reach(1), -1);
        x.ask(0, 687);
        due.is("687 at 0 alone", x.reach(2), 0);
        x.ask(0, 688);
        due.is("not at 0", x.reach(2), -1);
        x.ask(0, 27);
        due.is("27 at 59", x.reach(2), 59);
        x.ask(0, 28);
        due.is("28 at 58", x.reach(2), 58);
        x.ask(0, 999);
        x.sort(1, 1, 1, 1);
        due.is("1000 at 0", x.reach(3), 0);
    }

    private static void reachWithoutAnythingElse() {
        due.about("31 REACH: it alone, on the same SIDE, without TREES");
        LightAlong x = Streets.along("sort 2 40 7 6;least 100;place 0 0;long 1;wide 1");
        for (int i = 0; i < 12; i++) {
            x.stand(0, 2 * i);
            x.stand(1, 2 * i + 1);
        }
        x.lamp(0, 0);
        x.shop(0, 999, 11);
        due.is("among TREES, WALLS and SHOPS", x.reach(0), 19);
        x.ask(2, 12);
        x.ask(3, 60);
        due.is("WIDE and LONG don't matter", x.reach(0), 19);
        x.out(0, true);
        due.is("nor what stands", x.reach(0), 19);
    }

    // ---- MONTH at worst

    private static void worstOfSeveral() {
        due.about("32 MONTH at worst: of several the first");
        due.is("a new object", new LightAlong().worst(), 0);
        LightAlong x = Streets.along("sort 2 40 7 6;place 0 0;long 3;wide 1");
        x.lamp(0, 0);
        due.is("no TREES", x.worst(), 0);
        x.stand(0, 2);
        due.is("5, 6 and 7 alike", x.worst(), 5);
        x.stand(0, 3);
        due.is("a TREE across", x.worst(), 5);
        x.out(0, true);
        due.is("all dark", x.worst(), 0);
        x.out(0, false);
        x.stand(1, 2);
        due.is("a WALL: dark in each MONTH", x.worst(), 0);
    }

    private static void worstOfEachSeason() {
        due.about("32 MONTH at worst: that in which the least LIGHT is least");
        // Across at YARD 2 1000 * POWER / (h * h + 5), and TREES before it.
        due.is("LEAVES 3", worstWith("12 99", 1), 5);
        due.is("0 by LEAVES 2 already", worstWith("1 1", 8), 4);
        // 6: 4, 3, 2, 1, 0 by LEAVES 1.
        due.is("0 by LEAVES 1 already", worstWith("12 1", 6), 3);
    }

    private static int worstWith(String sort, int trees) {
        LightAlong x = Streets.along("sort " + sort + " 0 1;place 0 0;long 3;wide 1;least 0");
        x.lamp(0, 0);
        for (int i = 0; i < trees; i++) x.stand(0, 2);
        return x.worst();
    }

    private static void worstPoolsAside() {
        due.about("32 MONTH at worst: the least LIGHT (POOLS aside)");
        LightAlong x = Streets.along("sort 2 40 7 6;place 0 0;long 3;wide 1;tree 2;pool 4");
        x.lamp(0, 0);
        due.is("a POOL, the POINT across", x.worst(), 5);
        x.stand(2, 5);
        due.is("two POOLS", x.worst(), 0);
        for (int point = 0; point < 4; point++) x.stand(2, point);
        due.is("POOLS alone", x.worst(), 0);
        due.about("32 MONTH at worst: the first POINT and the last");
        x = Streets.along("sort 2 40 7 6;place 5 0;long 3;wide 1;tree 3");
        x.lamp(0, 0);
        due.is("POINT 0 is darkest", x.worst(), 5);
        x.stand(2, 0);
        due.is("then POINT 1", x.worst(), 5);
        x.stand(2, 1);
        due.is("neither", x.worst(), 0);
        x = Streets.along("sort 12 99 0 1;place 0 0;long 60;wide 1;tree 116");
        x.lamp(0, 0);
        due.is("POINT 119", x.worst(), 5);
        x.ask(3, 59);
        due.is("beyond LONG", x.worst(), 0);
    }

    private static void worstAtHourNought() {
        due.about("32 MONTH at worst: by THE LAYING at HOUR 0");
        // At YARD 2 444 to 111 across, 500 to 125; elsewhere 666 at least in any MONTH.
        String base = "sort 2 4 0 1;place 0 0;long 3;wide 1;tree 2;shop 4 999 ";
        LightAlong x = Streets.along(base + "1;shop 5 999 1");
        x.lamp(0, 0);
        due.is("SHOPS till 1", x.worst(), 0);
        x = Streets.along(base + "0;shop 5 999 1");
        x.lamp(0, 0);
        due.is("one till 0", x.worst(), 5);
    }

    // ---- SHADE

    private static void shadeOfSeveral() {
        due.about("33 SHADE: the greatest; of several the first");
        LightAlong x = Streets.along("sort 2 40 7 6;sort 2 41 7 6;place 20 0;place 20 0;place 28 0;place 21 0;wide 1");
        x.lay(15, 0);
        x.laying(0, 0, 0);
        due.is("alike", x.shade(0, 20, 0), 0);
        due.is("in the middle", x.shade(0, 24, 0), 0);
        due.is("nearer to the other", x.shade(0, 26, 0), 2);
        due.is("its own SIDE", x.shade(0, 21, 0), 3);
        x.lamp(1, 1);
        due.is("the stronger", x.shade(0, 20, 0), 1);
        x.out(1, true);
        due.is("OUT", x.shade(0, 20, 0), 0);
        x.lamp(0, -1);
        due.is("of another one", x.shade(0, 20, 0), 3);
        x.lay(0, 0);
        for (int p = 4; p < 9; p++) x.place(118, 0);
        x.lamp(8, 0);
        due.is("the ninth", x.shade(0, 118, 0), 8);
        due.is("at the other end", x.shade(0, 0, 0), 8);
        due.about("33 SHADE in a MONTH");
        x = Streets.along("sort 2 40 7 6;place 20 0;place 28 0;tree 22");
        x.lay(3, 0);
        x.laying(0, 0, 0);
        due.is("winter", x.shade(0, 24, 2), 0);
        due.is("a TREE before the first", x.shade(0, 24, 3), 1);
    }

    private static void shadeOfNone() {
        due.about("33 SHADE, NONE: no light of lamps");
        LightAlong x = Streets.along("sort 12 1 0 1;place 0 0;shop 4 9 11");
        x.laying(0, 0, 0);
        due.is("no lamp", x.shade(0, 4, 0), -1);
        x.lamp(0, 0);
        due.is("a lamp", x.shade(0, 4, 0), 0);
        due.is("a light of 1", x.shade(0, 58, 0), 0);
        due.is("a light of 0", x.shade(0, 60, 0), -1);
        x.stand(1, 2);
        due.is("behind a WALL", x.shade(0, 4, 0), -1);
        due.is("before it", x.shade(0, 2, 0), 0);
        due.is("no PLACES", laidOut().shade(0, 0, 0), -1);
    }

    private static LightAlong laidOut() {
        LightAlong x = new LightAlong();
        x.laying(0, 0, 0);
        return x;
    }

    private static void shadeByKinds() {
        due.about("33 SHADE by the LAYING at HOUR 0");
        LightAlong x = Streets.along("sort 12 1 0 1;sort 12 2 0 1;place 0 0;place 1 0;wide 1");
        x.lay(3, 0);
        int[] shades = {0, 1, 0, 1, -1, 0, 1};
        for (int kind = 0; kind < 7; kind++) {
            x.laying(kind, kind, kind == 1 || kind == 3 ? 1 : kind == 6 ? 2 : 0);
            due.is("KIND " + kind, x.shade(kind, 56, 0), shades[kind]);
        }
        x.laying(4, 4, 1);
        due.is("DIM from HOUR 1", x.shade(4, 56, 0), 0);
        x.laying(4, 4, 0);
        x.lamp(1, 1);
        due.is("DIM: 2 / 2 is more than 1 / 2", x.shade(4, 56, 0), 1);
    }

    // ---- SPILL

    private static void spillJustSo() {
        due.about("34 SPILL: how many would be below LEAST without it, and aren't now");
        LightAlong x = Streets.along("shop 20 9 1;shop 20 100 1");
        // LIGHT at YARDS 10, 11 and 12: 109, 54 and 27; without the second SHOP 9, 4 and 2.
        int[][] spills = {{0, 0}, {2, 0}, {3, 2}, {4, 2}, {5, 4}, {9, 4}, {10, 5}, {27, 5}, {28, 3}, {54, 3}, {55, 1},
            {109, 1}, {110, 0}, {999, 0}};
        for (int[] s : spills) {
            x.ask(0, s[0]);
            due.is("LEAST " + s[0], x.spill(1, 0), s[1]);
        }
        x = Streets.along("shop 20 1 1;least 1");
        due.is("a light of 1", x.spill(0, 0), 1);
        x = Streets.along("shop 20 4 1;least 1");
        due.is("a quarter of 4", x.spill(0, 0), 5);
    }

    private static void spillOfAllPoints() {
        due.about("34 SPILL: POINTS (0 to 119)");
        LightAlong x = Streets.along("shop 0 8 1;shop 119 8 1;shop 60 8 1;least 2;long 1");
        due.is("at the first", x.spill(0, 0), 3);
        due.is("at the last", x.spill(1, 0), 3);
        due.is("beyond LONG", x.spill(2, 0), 5);
        x.shop(1, 8, 1);
        x.shop(118, 8, 1);
        due.is("at the first, SIDE 1", x.spill(3, 0), 3);
        due.is("at the last, SIDE 0", x.spill(4, 0), 3);
        for (int point = 58; point < 64; point++) x.stand(2, point);
        due.is("POOLS count", x.spill(2, 0), 5);
        x = Streets.along("least 1");
        for (int i = 0; i < 8; i++) x.shop(12 * i, 4, 1);
        due.is("the last of eight", x.spill(7, 0), 5);
        due.is("no ninth", x.spill(8, 0), -1);
    }

    private static void spillAtHourNought() {
        due.about("34 SPILL: in a MONTH at HOUR 0");
        LightAlong x = Streets.along("least 2;shop 20 8 0;shop 30 8 1;shop 30 8 0");
        due.is("till 0", x.spill(0, 0), 0);
        due.is("till 1", x.spill(1, 0), 5);
        // By LEAVES 0 to 3 a lamp gives YARD 2 500, 375, 250 and 125, YARD 3 307, 230, 153 and 76;
        // the SHOP gives them 200 and 100.
        x = Streets.along("least 251;sort 2 4 0 1;place 0 0;tree 2;shop 4 200 1");
        x.lamp(0, 0);
        int[] spills = {0, 0, 0, 1, 2, 1, 1, 1, 2, 1, 0, 0};
        for (int month = 0; month < 12; month++) due.is("month " + month, x.spill(0, month), spills[month]);
    }

    private static void spillByTheLaying() {
        due.about("34 SPILL: by THE LAYING (all)");
        LightAlong x = Streets.along("least 2;shop 20 8 1;sort 1 1 0 1;place 20 0");
        x.laying(0, 6, 0);
        due.is("no lamp", x.spill(0, 0), 5);
        x.lamp(0, 0);
        due.is("a lamp is enough", x.spill(0, 0), 0);
        x.out(0, true);
        due.is("it is OUT", x.spill(0, 0), 5);
    }

    // ---- dim

    private static void dimFirstHour() {
        due.about("35 dim: the first HOUR from which on THE LAYING is WELL");
        for (int till = 0; till < 12; till++) {
            LightAlong x = Streets.along("least 20;even 99;long 1;wide 1;sort 5 1 0 1;place 0 0;window 0 20;shop 0 2 " + till);
            // 1000 / 25 is 40, across 1000 / 26 is 38; halved 20 and 19.
            x.lamp(0, 0);
            due.is("too dark, SHOP till " + till, x.dim(0), -1);
            x.ask(0, 19);
            due.is("SHOP till " + till, x.dim(0), till);
        }
    }

    private static void dimToTheEnd() {
        due.about("35 dim: at each HOUR from that on; NONE");
        LightAlong x = Streets.along("least 20;even 99;long 1;shop 0 20 11;shop 1 20 11");
        due.is("too dark at HOUR 11", x.dim(0), -1);
        x = Streets.along("least 0;even 99;long 1");
        due.is("no light, LEAST 0", x.dim(0), 0);
        x.shop(0, 9, 11);
        due.is("uneven till HOUR 11", x.dim(0), 11);
        x.window(1, 0);
        due.is("a WINDOW in the dark", x.dim(0), 11);
        due.is("a new object", new LightAlong().dim(11), -1);
    }

    private static void dimIsHalf() {
        due.about("35 dim: if all lamps are half (as DIM by it)");
        LightAlong x = Streets.along("least 38;even 99;long 1;wide 1;sort 5 1 0 1;place 0 0;place 0 0");
        x.lay(3, 0);
        due.is("19 and 19", x.dim(0), 0);
        x.ask(0, 39);
        due.is("39", x.dim(0), -1);
        x.ask(0, 38);
        x.out(0, true);
        due.is("one is OUT", x.dim(0), -1);
        x = Streets.along("long 3;least 63;even 99;wide 1;sort 2 4 0 1;place 0 0;tree 2");
        x.lamp(0, 0);
        // Across at YARD 2 444, 333, 222, 111, halved 222, 166, 111, 55.
        for (int month = 0; month < 12; month++) {
            due.is("month " + month, x.dim(month), month >= 5 && month <= 7 ? -1 : 0);
        }
    }

    // ---- BULBS, MOVED, lay

    private static void bulbsOfMonths() {
        due.about("36 BULBS over n months (1 to 240): n by LIFE, cut");
        LightAlong x = Streets.along("sort 2 40 7 6;place 0 9");
        x.lamp(0, 0);
        int[][] times = {{1, 0}, {5, 0}, {6, 1}, {7, 1}, {11, 1}, {12, 2}, {239, 39}, {240, 40}};
        for (int[] t : times) {
            due.is(t[0] + " months, as they go", x.bulbs(t[0], false), t[1] * 37);
            due.is(t[0] + " months, together", x.bulbs(t[0], true), t[1] * 57);
        }
        for (boolean together : new boolean[] {false, true}) {
            due.is("0 months", x.bulbs(0, together), -6);
            due.is("241 months", x.bulbs(241, together), -6);
        }
        due.about("36 BULBS: LIFE 1 and 99, COIN 0 and 99");
        x = Streets.along("sort 1 1 0 1;sort 1 1 99 99;place 0 9");
        x.lamp(0, 0);
        due.is("LIFE 1", x.bulbs(240, false), 240 * 30);
        due.is("LIFE 1", x.bulbs(240, true), 240 * 50);
        due.is("LIFE 1, a month", x.bulbs(1, true), 50);
        x.lamp(0, 1);
        due.is("LIFE 99", x.bulbs(98, false), 0);
        due.is("LIFE 99", x.bulbs(99, false), 129);
        due.is("LIFE 99", x.bulbs(99, true), 149);
        due.is("LIFE 99", x.bulbs(197, true), 149);
        due.is("LIFE 99", x.bulbs(240, true), 298);
    }

    private static void bulbsOfNoLamps() {
        due.about("36 BULBS of no lamps");
        for (boolean together : new boolean[] {false, true}) {
            due.is("nothing there", new LightAlong().bulbs(240, together), 0);
            due.is("PLACES alone", Streets.along("sort 1 1 9 1;place 0 9").bulbs(240, together), 0);
        }
    }

    private static void bulbsTogether() {
        due.about("36 BULBS: all together each m months, m the least LIFE");
        LightAlong x = Streets.along("sort 2 40 7 6;sort 2 40 20 9;place 0 0;place 2 0");
        x.lamp(0, 1);
        due.is("one, LIFE 9", x.bulbs(18, true), 2 * 70);
        x.lamp(1, 0);
        due.is("both each 6 months", x.bulbs(18, true), 3 * (27 + 50));
        due.is("each by itself", x.bulbs(18, false), 2 * 50 + 3 * 37);
        due.is("not yet", x.bulbs(5, true), 0);
        due.is("both", x.bulbs(6, true), 77);
        due.is("one of them", x.bulbs(6, false), 37);
        x.lamp(1, 1);
        due.is("two of LIFE 9", x.bulbs(18, true), 2 * 90);
        due.is("a free PLACE", x.lamp(0, -1), 1);
        due.is("one is left", x.bulbs(18, true), 2 * 70);
    }

    private static void bulbsOfManyLamps() {
        due.about("36 BULBS of nine lamps");
        LightAlong x = Streets.along("sort 2 40 99 1");
        for (int p = 0; p < 9; p++) x.place(p, 99);
        x.lay(511, 0);
        due.is("as they go", x.bulbs(240, false), 9 * 240 * 129);
        due.is("together", x.bulbs(240, true), 240 * (9 * 99 + 50));
    }

    private static void movedPlaces() {
        due.about("37 MOVED: how many PLACES differ");
        LightAlong x = Streets.along("sort 2 40 7 6;sort 2 40 7 6");
        due.is("no PLACES", x.moved(0, 0), 0);
        due.is("no such PLACE", x.moved(1, 0), -1);
        for (int p = 0; p < 9; p++) x.place(p, 9);
        due.is("none to none", x.moved(0, 0), 0);
        due.is("all come", x.moved(511, 0), 9);
        due.is("the last comes", x.moved(256, 0), 1);
        x.lay(511, 0);
        due.is("all stay", x.moved(511, 0), 0);
        due.is("all change, though alike", x.moved(511, 1), 9);
        due.is("all go", x.moved(0, 0), 9);
        due.is("the last stays", x.moved(256, 0), 8);
        x.lay(3, 0);
        due.is("one goes, one stays, one comes", x.moved(6, 0), 2);
        due.is("one goes, one changes, one comes", x.moved(6, 1), 3);
        due.is("beyond all", x.moved(512, 0), -1);
        due.is("nothing has moved", x.status(2), 2);
    }

    private static void laidSets() {
        due.about("38 lay: THE LAYING becomes a set of PLACES with lamps of a SORT");
        LightAlong x = Streets.along("sort 2 40 7 6;sort 2 40 99 6");
        due.is("no PLACES", x.lay(0, 0), 0);
        due.is("no such PLACE", x.lay(1, 0), -1);
        for (int p = 0; p < 9; p++) x.place(p, 99);
        due.is("all", x.lay(511, 1), 9 * 198);
        due.is("lamps", x.status(2), 9);
        due.is("their SORT", x.placeOf(8, 2), 1);
        for (int p = 0; p < 9; p++) x.out(p, true);
        due.is("beyond all", x.lay(512, 0), -1);
        due.is("still OUT", x.status(3), 9);
        due.is("the last", x.lay(256, 0), 106);
        due.is("one lamp", x.status(2), 1);
        due.is("burns", x.status(3), 0);
        due.is("its SORT", x.placeOf(8, 2), 0);
        due.is("the first is free", x.placeOf(0, 2), -1);
        due.is("none", x.lay(0, 1), 0);
        due.is("no lamps", x.status(2), 0);
    }
}
