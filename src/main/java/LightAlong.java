import java.util.Arrays;

/** Light along a street. The numbered promises of DOC.md say what each call answers. */
public final class LightAlong {
    public static final int NONE = -1;

    private static final int NOBODY = -1;
    private static final int OTHER = -2;
    private static final int NOTHING = -3;
    private static final int BELOW = -4;
    private static final int BEYOND = -5;
    private static final int WRONG = -6;
    private static final int ROOM = -7;
    /** Some calls answer NONE or numbers below 0 of their own, so their refusals are told 10 lower. */
    private static final int APART = 10;

    private static final int SHELVES = 8;
    private static final int POINTS = 120;
    private static final int YARDS = 60;
    private static final int MOST_ELEMENTS = 120;
    private static final int MOST_PLACES = 9;
    private static final int MONTHS = 12;
    private static final int HOURS = 12;
    private static final int MOST_MONTHS = 240;
    private static final int POOL_LIGHT = 5;
    private static final int ROW = 100;

    private static final int LAYING = 0;
    private static final int ONE = 1;
    private static final int BOTH = 2;
    private static final int TURN = 3;
    private static final int DIM = 4;
    private static final int THERE = 5;
    private static final int TOLD = 6;

    private static final int LEAST = 0;
    private static final int EVEN = 1;
    private static final int WIDE = 2;
    private static final int LONG = 3;
    private static final int SORT = 4;
    private static final int PLACE = 5;
    private static final int TREE = 6;
    private static final int WALL = 7;
    private static final int WINDOW = 8;
    private static final int SHOP = 9;
    private static final int POOL = 10;
    private static final int ITEMS = 11;

    /** Of each ITEM how many NUMBERS it has, and the bounds of each (4 entries an ITEM). */
    private static final int[] NUMBERS = {1, 1, 1, 1, 4, 2, 1, 1, 2, 3, 1};
    private static final int[] LOWEST = {
        0, 0, 0, 0, 1, 0, 0, 0, 1, 0, 0, 0, 1, 0, 0, 0, 1, 1, 0, 1, 0, 0, 0, 0,
        0, 0, 0, 0, 0, 0, 0, 0, 0, 0, 0, 0, 0, 1, 0, 0, 0, 0, 0, 0};
    private static final int[] HIGHEST = {
        999, 0, 0, 0, 99, 0, 0, 0, 12, 0, 0, 0, 60, 0, 0, 0, 12, 99, 99, 99, 119, 99, 0, 0,
        119, 0, 0, 0, 119, 0, 0, 0, 119, 999, 0, 0, 119, 999, 11, 0, 119, 0, 0, 0};

    private static final int[] LEAVES = {0, 0, 0, 1, 2, 3, 3, 3, 2, 1, 0, 0};

    private static final int HEIGHT = 0;
    private static final int POWER = 1;
    private static final int COIN = 2;
    private static final int LIFE = 3;

    private static final int POINT = 0;
    private static final int WIRE = 1;
    private static final int ITS_SORT = 2;
    private static final int IS_OUT = 3;

    private static final int BAR = 1;
    private static final int SHOP_LIGHT = 1;
    private static final int TILL = 2;

    private static final int DARK_RULE = 1;
    private static final int POOL_RULE = 2;
    private static final int EVEN_RULE = 3;
    private static final int WINDOW_RULE = 4;

    private static final int CHEAPEST = 0;
    private static final int FEWEST = 1;
    private static final int FIRM = 2;

    private final Street now = new Street();
    private final Street draft = new Street();
    private final Street kept = new Street();
    private boolean imageTaken = false;
    private final Shelf[] shelves = new Shelf[SHELVES];
    private final StreetText text = new StreetText();
    private final Lights lights = new Lights();
    private final Choice choice = new Choice();
    private final Acts acts = new Acts();
    private final int[] refusals = new int[8];
    private int latestFault = NONE;

    public LightAlong() {
        for (int s = 0; s < SHELVES; s++) {
            shelves[s] = new Shelf();
        }
    }

    public int row(int s, int sort, int n) {
        if (!isShelf(s)) return refuse(NOBODY);
        if (n < 0) return refuse(BELOW);
        if (sort < 0 || sort > 3) return refuse(WRONG);
        if (n > MOST_ELEMENTS) return refuse(ROOM);
        shelves[s].holdRow(sort, n);
        return 1;
    }

    public int set(int s, int i, long v) {
        int no = hindranceOfRow(s);
        if (no != 0) return refuse(no);
        if (!shelves[s].has(i)) return refuse(BEYOND);
        shelves[s].put(i, v);
        return 1;
    }

    public int copy(int p, int q, int i, int j, int n) {
        if (!isShelf(p) || !isShelf(q)) return refuse(NOBODY);
        Shelf from = shelves[p];
        Shelf to = shelves[q];
        if (from.isLaying() || to.isLaying()) return refuse(OTHER);
        if (from.isRow() && to.isRow() && from.content != to.content) return refuse(OTHER);
        if (!from.isRow() || !to.isRow()) return refuse(NOTHING);
        if (n < 0) return refuse(BELOW);
        if (!from.hasRun(i, n) || !to.hasRun(j, n)) return refuse(BEYOND);
        System.arraycopy(from.elements, i, to.elements, j, n);
        return 1;
    }

    public long element(int s, int i) {
        if (!isShelf(s) || !shelves[s].isRow()) return 0L;
        return shelves[s].elementAt(i);
    }

    public int laying(int s, int kind, int a) {
        if (!isShelf(s) || kind < NONE || kind > TOLD) return refuse(NOBODY);
        if (kind == NONE) {
            shelves[s].holdNothing();
            return 0;
        }
        if (!mayBeBy(kind, a)) return refuse(WRONG);
        shelves[s].holdLaying(kind, a, now.lampBits());
        return 1;
    }

    public int holds(int s) {
        return isShelf(s) ? shelves[s].content : NONE;
    }

    public int says(int s, int kind) {
        if (kind < LAYING || kind > TOLD) return refuse(NOBODY);
        int no = hindranceOfLaying(s);
        if (no != 0) return refuse(no);
        Shelf shelf = shelves[s];
        if (!shelf.isOfKind(kind)) return refuse(OTHER);
        switch (kind) {
            case LAYING: return Integer.bitCount(now.burning(shelf));
            case BOTH: return now.burning(shelf);
            case THERE: return shelf.wereThere;
            default: return shelf.by;
        }
    }

    public int sort(int height, int power, int coin, int life) {
        if (!mayBe(SORT, HEIGHT, height) || !mayBe(SORT, POWER, power)) return refuse(WRONG);
        if (!mayBe(SORT, COIN, coin) || !mayBe(SORT, LIFE, life)) return refuse(WRONG);
        if (now.sorts.isFull()) return refuse(ROOM);
        return now.sorts.add(height, power, coin, life);
    }

    public int place(int point, int wire) {
        if (!isPoint(point)) return refuse(NOBODY);
        if (!mayBe(PLACE, WIRE, wire)) return refuse(WRONG);
        if (now.places.isFull()) return refuse(ROOM);
        return now.places.add(point, wire, NONE, 0);
    }

    public int stand(int kind, int point) {
        if (kind < 0 || kind > 2 || !isPoint(point)) return refuse(NOBODY);
        Table table = kind == 0 ? now.trees : kind == 1 ? now.walls : now.pools;
        if (table.isFull()) return refuse(ROOM);
        return table.add(point, 0, 0, 0) + 1;
    }

    public int window(int point, int bar) {
        if (!isPoint(point)) return refuse(NOBODY);
        if (!mayBe(WINDOW, BAR, bar)) return refuse(WRONG);
        if (now.windows.isFull()) return refuse(ROOM);
        return now.windows.add(point, bar, 0, 0) + 1;
    }

    public int shop(int point, int light, int till) {
        if (!isPoint(point)) return refuse(NOBODY);
        if (!mayBe(SHOP, SHOP_LIGHT, light) || !mayBe(SHOP, TILL, till)) return refuse(WRONG);
        if (now.shops.isFull()) return refuse(ROOM);
        return now.shops.add(point, light, till, 0);
    }

    public int ask(int what, int v) {
        if (what < LEAST || what > LONG || !mayBe(what, 0, v)) return refuse(WRONG);
        int was = now.measures[what];
        now.measures[what] = v;
        return was;
    }

    public int street(int s) {
        int no = hindranceOfRow(s);
        if (no != 0) return refuse(no);
        draft.become(now);
        latestFault = text.read(shelves[s], draft);
        if (latestFault != NONE) return refuse(WRONG);
        now.become(draft);
        return text.items;
    }

    public int fault() {
        return latestFault;
    }

    public int sortOf(int sort, int what) {
        if (!now.sorts.has(sort) || what < 0 || what > 3) return refuse(BEYOND);
        return now.sorts.number(sort, what);
    }

    public int placeOf(int place, int what) {
        if (!now.places.has(place) || what < 0 || what > 3) return refuse(BEYOND);
        return now.places.number(place, what);
    }

    public int lamp(int place, int sort) {
        boolean isKnown = now.places.has(place) && (sort == NONE || now.sorts.has(sort));
        if (!isKnown) return refuseApart(NOBODY);
        int had = now.places.number(place, ITS_SORT);
        now.putLamp(place, sort);
        return had;
    }

    public int out(int place, boolean is) {
        if (!now.places.has(place)) return refuse(NOBODY);
        if (!now.hasLamp(place)) return refuse(WRONG);
        boolean was = now.isOut(place);
        now.places.change(place, IS_OUT, is ? 1 : 0);
        return was == is ? 0 : 1;
    }

    public int light(int s, int point, int month, int hour) {
        int no = hindranceOfLight(s, isPoint(point), isMonth(month) && isHour(hour));
        if (no != 0) return refuse(no);
        return lightAt(shelves[s], point, month, hour);
    }

    public int face(int s, int point, int month, int hour) {
        int no = hindranceOfLight(s, isPoint(point), isMonth(month) && isHour(hour));
        if (no != 0) return refuse(no);
        Shelf shelf = shelves[s];
        return now.faceOfLamps(now.burning(shelf), shelf.isHalfAt(hour), point, month);
    }

    public int faulty(int s, int month, int hour) {
        int no = hindranceOfLight(s, true, isMonth(month) && isHour(hour));
        if (no != 0) return refuse(no);
        return brokenRule(shelves[s], month, hour);
    }

    public int dark(int s, int month, int hour) {
        int no = hindranceOfLight(s, true, isMonth(month) && isHour(hour));
        if (no != 0) return refuseApart(no);
        int rule = brokenRule(shelves[s], month, hour);
        return rule == 0 ? NONE : lights.pointAgainst(now, rule);
    }

    public int coin(int set, int sort) {
        if (!now.sorts.has(sort) || !now.isSet(set)) return refuse(NOBODY);
        return now.coinOf(set, sort);
    }

    public int cheapest(int sort, int month) {
        return chosen(sort, month, CHEAPEST);
    }

    public int fewest(int sort, int month) {
        return chosen(sort, month, FEWEST);
    }

    public int firm(int sort, int month) {
        return chosen(sort, month, FIRM);
    }

    public int bound(int sort, int month) {
        if (!now.sorts.has(sort)) return refuseApart(NOBODY);
        if (!isMonth(month)) return refuseApart(WRONG);
        choice.prepare(now, sort, month);
        return choice.lampsNeeded();
    }

    public int which(int month) {
        if (!isMonth(month)) return refuse(WRONG);
        int best = NONE;
        int bestCoin = 0;
        for (int sort = 0; sort < now.sorts.count; sort++) {
            choice.prepare(now, sort, month);
            int set = choice.best(now, CHEAPEST);
            if (set == NONE) continue;
            int coin = now.coinOf(set, sort);
            if (best == NONE || coin < bestCoin) {
                best = sort;
                bestCoin = coin;
            }
        }
        return best == NONE ? refuse(BEYOND) : best;
    }

    public int reach(int sort) {
        if (!now.sorts.has(sort)) return refuseApart(NOBODY);
        int reached = NONE;
        for (int yards = 0; yards < YARDS; yards++) {
            if (now.bareLight(sort, yards * yards) >= now.measures[LEAST]) reached = yards;
        }
        return reached;
    }

    public int worst() {
        int worst = 0;
        int worstLight = 0;
        // The light changes with LEAVES alone, and months 6 to 11 have none that months 0 to 5 don't have.
        for (int month = 0; month < 6; month++) {
            lights.shine(now, now.burningBits(), false, month);
            lights.addShops(now, 0);
            int least = lights.leastLight();
            if (month == 0 || least < worstLight) {
                worst = month;
                worstLight = least;
            }
        }
        return worst;
    }

    public int shade(int s, int point, int month) {
        int no = hindranceOfLight(s, isPoint(point), isMonth(month));
        if (no != 0) return refuseApart(no);
        Shelf shelf = shelves[s];
        return now.brightest(now.burning(shelf), shelf.isHalfAt(0), point, month);
    }

    public int spill(int shop, int month) {
        if (!now.shops.has(shop)) return refuse(NOBODY);
        if (!isMonth(month)) return refuse(WRONG);
        int burning = now.burningBits();
        int least = now.measures[LEAST];
        int saved = 0;
        for (int point = 0; point < POINTS; point++) {
            int given = now.ofShop(shop, point, 0);
            if (given == 0) continue;
            int light = now.ofLamps(burning, false, point, month) + now.ofShops(point, 0);
            if (light >= least && light - given < least) saved++;
        }
        return saved;
    }

    public int dim(int month) {
        if (!isMonth(month)) return refuseApart(WRONG);
        lights.shine(now, now.burningBits(), true, month);
        int first = NONE;
        for (int hour = HOURS - 1; hour >= 0; hour--) {
            lights.addShops(now, hour);
            if (lights.ruleBroken(now) != 0) break;
            first = hour;
        }
        return first;
    }

    public int bulbs(int n, boolean together) {
        if (n < 1 || n > MOST_MONTHS) return refuse(WRONG);
        return together ? now.bulbsTogether(n) : now.bulbsAsTheyGo(n);
    }

    public int moved(int set, int sort) {
        if (!now.sorts.has(sort) || !now.isSet(set)) return refuse(NOBODY);
        int differing = 0;
        for (int p = 0; p < now.places.count; p++) {
            int wanted = isIn(set, p) ? sort : NONE;
            if (now.places.number(p, ITS_SORT) != wanted) differing++;
        }
        return differing;
    }

    public int lay(int set, int sort) {
        if (!now.sorts.has(sort) || !now.isSet(set)) return refuse(NOBODY);
        for (int p = 0; p < now.places.count; p++) {
            now.putLamp(p, isIn(set, p) ? sort : NONE);
        }
        return now.coinOf(set, sort);
    }

    public int judge(int s, int t, int month) {
        if (!isShelf(s) || !isShelf(t)) return refuseApart(NOBODY);
        Shelf shelf = shelves[s];
        Shelf told = shelves[t];
        if (shelf.isRow() || told.isLaying()) return refuseApart(OTHER);
        if (!shelf.isLaying() || !told.isRow()) return refuseApart(NOTHING);
        if (!isMonth(month)) return refuseApart(WRONG);
        for (int point = 0; point < POINTS; point++) {
            if (lightAt(shelf, point, month, 0) != told.intAt(point)) return point;
        }
        return NONE;
    }

    public int act(int s, int act, int x) {
        acts.forget();
        if (!isShelf(s) || !shelves[s].isLaying()) return 0;
        acts.take(shelves[s].content, s, shelves[s].by);
        switch (act) {
            case 0: return acts.burns(x);
            case 1: return acts.falls(x);
            case 2: return acts.costs(x);
            default: return 0;
        }
    }

    public int trace(int i) {
        return acts.bodyAt(i);
    }

    public int image() {
        kept.become(now);
        imageTaken = true;
        return now.places.count;
    }

    public int restore() {
        if (!imageTaken) return refuse(WRONG);
        now.become(kept);
        return now.places.count;
    }

    public int status(int what) {
        switch (what) {
            case 0: return now.sorts.count;
            case 1: return now.places.count;
            case 2: return Integer.bitCount(now.lampBits());
            case 3: return Integer.bitCount(now.lampBits() & ~now.burningBits());
            case 4: return now.trees.count;
            case 5: return now.walls.count;
            case 6: return now.windows.count;
            case 7: return now.shops.count;
            case 8: return now.pools.count;
            case 9: return acts.ran;
            default: return what > 10 && what < 18 ? refusals[what - 10] : NONE;
        }
    }

    private int refuse(int number) {
        if (number <= NOBODY && number >= ROOM) refusals[-number]++;
        return number;
    }

    private int refuseApart(int number) {
        return refuse(number) - APART;
    }

    /** The refusal of a call that wants a ROW in SHELF s, or 0. */
    private int hindranceOfRow(int s) {
        if (!isShelf(s)) return NOBODY;
        if (shelves[s].isLaying()) return OTHER;
        return shelves[s].isRow() ? 0 : NOTHING;
    }

    /** The refusal of a call that wants a LAYING in SHELF s, or 0. */
    private int hindranceOfLaying(int s) {
        if (!isShelf(s)) return NOBODY;
        if (shelves[s].isRow()) return OTHER;
        return shelves[s].isLaying() ? 0 : NOTHING;
    }

    private int hindranceOfLight(int s, boolean isKnown, boolean isRight) {
        if (!isKnown) return NOBODY;
        int no = hindranceOfLaying(s);
        if (no != 0) return no;
        return isRight ? 0 : WRONG;
    }

    private int chosen(int sort, int month, int wish) {
        if (!now.sorts.has(sort)) return refuse(NOBODY);
        if (!isMonth(month)) return refuse(WRONG);
        choice.prepare(now, sort, month);
        int set = choice.best(now, wish);
        return set == NONE ? refuse(BEYOND) : set;
    }

    private int lightAt(Shelf shelf, int point, int month, int hour) {
        int lamps = now.ofLamps(now.burning(shelf), shelf.isHalfAt(hour), point, month);
        return lamps + now.ofShops(point, hour);
    }

    private int brokenRule(Shelf shelf, int month, int hour) {
        lights.shine(now, now.burning(shelf), shelf.isHalfAt(hour), month);
        lights.addShops(now, hour);
        return lights.ruleBroken(now);
    }

    private static boolean isShelf(int s) {
        return s >= 0 && s < SHELVES;
    }

    private static boolean isPoint(int point) {
        return point >= 0 && point < POINTS;
    }

    private static boolean isMonth(int month) {
        return month >= 0 && month < MONTHS;
    }

    private static boolean isHour(int hour) {
        return hour >= 0 && hour < HOURS;
    }

    private static boolean isIn(int set, int place) {
        return (set >> place & 1) != 0;
    }

    private static int yardOf(int point) {
        return point >> 1;
    }

    private static int sideOf(int point) {
        return point & 1;
    }

    /** Whether the k-th NUMBER of an ITEM may be v. */
    private static boolean mayBe(int item, int k, int v) {
        int i = item * 4 + k;
        if (i < 0 || i >= LOWEST.length || i >= HIGHEST.length) return false;
        return v >= LOWEST[i] && v <= HIGHEST[i];
    }

    private static boolean mayBeBy(int kind, int a) {
        switch (kind) {
            case ONE:
            case TURN: return a == 0 || a == 1;
            case DIM: return isHour(a);
            case TOLD: return a >= 0 && a < 1 << MOST_PLACES;
            default: return true;
        }
    }

    private static String wordOf(int item) {
        switch (item) {
            case LEAST: return "least";
            case EVEN: return "even";
            case WIDE: return "wide";
            case LONG: return "long";
            case SORT: return "sort";
            case PLACE: return "place";
            case TREE: return "tree";
            case WALL: return "wall";
            case WINDOW: return "window";
            case SHOP: return "shop";
            default: return "pool";
        }
    }

    /** What stands along the street, of one sort: so many things, each with up to 4 numbers. */
    private static final class Table {
        private final int most;
        private final int[] numbers;
        private int count = 0;

        Table(int most) {
            this.most = most;
            this.numbers = new int[most * 4];
        }

        boolean isFull() {
            return count >= most;
        }

        boolean has(int i) {
            return i >= 0 && i < count;
        }

        int number(int i, int what) {
            boolean isThere = i >= 0 && i < count && what >= 0 && what < 4;
            return isThere ? numbers[i * 4 + what] : NONE;
        }

        void change(int i, int what, int v) {
            if (has(i) && what >= 0 && what < 4) numbers[i * 4 + what] = v;
        }

        /** Its number; NONE if there is no room. */
        int add(int a, int b, int c, int d) {
            if (isFull()) return NONE;
            int number = count;
            count++;
            change(number, 0, a);
            change(number, 1, b);
            change(number, 2, c);
            change(number, 3, d);
            return number;
        }

        void become(Table other) {
            int length = Math.min(numbers.length, other.numbers.length);
            System.arraycopy(other.numbers, 0, numbers, 0, length);
            count = other.count;
        }
    }

    /** The street with THE LAYING: all that THE IMAGE takes. */
    private static final class Street {
        private final int[] measures = {20, 8, 6, 40};
        private final Table sorts = new Table(6);
        private final Table places = new Table(MOST_PLACES);
        private final Table trees = new Table(12);
        private final Table walls = new Table(12);
        private final Table windows = new Table(12);
        private final Table shops = new Table(8);
        private final Table pools = new Table(6);

        void become(Street other) {
            System.arraycopy(other.measures, 0, measures, 0, measures.length);
            sorts.become(other.sorts);
            places.become(other.places);
            trees.become(other.trees);
            walls.become(other.walls);
            windows.become(other.windows);
            shops.become(other.shops);
            pools.become(other.pools);
        }

        boolean hasRoom(int item) {
            return item <= LONG || !tableOf(item).isFull();
        }

        void add(int item, int[] n) {
            if (item < 0 || item >= ITEMS || n.length < 4) return;
            if (item <= LONG) {
                measures[item] = n[0];
            } else if (item == PLACE) {
                places.add(n[0], n[1], NONE, 0);
            } else {
                tableOf(item).add(n[0], n[1], n[2], n[3]);
            }
        }

        private Table tableOf(int item) {
            switch (item) {
                case SORT: return sorts;
                case PLACE: return places;
                case TREE: return trees;
                case WALL: return walls;
                case WINDOW: return windows;
                case SHOP: return shops;
                default: return pools;
            }
        }

        boolean isPool(int point) {
            for (int i = 0; i < pools.count; i++) {
                if (pools.number(i, POINT) == point) return true;
            }
            return false;
        }

        boolean isSet(int set) {
            return set >= 0 && set < 1 << places.count;
        }

        boolean hasLamp(int place) {
            return places.number(place, ITS_SORT) != NONE;
        }

        boolean isOut(int place) {
            return places.number(place, IS_OUT) == 1;
        }

        void putLamp(int place, int sort) {
            places.change(place, ITS_SORT, sort);
            places.change(place, IS_OUT, 0);
        }

        /** The PLACES that have lamps, OUT or not. */
        int lampBits() {
            int bits = 0;
            for (int p = 0; p < places.count; p++) {
                if (hasLamp(p)) bits |= 1 << p;
            }
            return bits;
        }

        /** The PLACES that have lamps that aren't OUT. */
        int burningBits() {
            int bits = 0;
            for (int p = 0; p < places.count; p++) {
                if (hasLamp(p) && !isOut(p)) bits |= 1 << p;
            }
            return bits;
        }

        /** The PLACES whose lamps burn by the LAYING in a SHELF. */
        int burning(Shelf shelf) {
            int all = burningBits();
            switch (shelf.content) {
                case ONE: return all & bitsOnSide(shelf.by);
                case TURN: return bitsInTurn(all, shelf.by);
                case THERE: return all & shelf.wereThere;
                case TOLD: return all & shelf.by;
                default: return all;
            }
        }

        private int bitsOnSide(int side) {
            int bits = 0;
            for (int p = 0; p < places.count; p++) {
                if (sideOf(places.number(p, POINT)) == side) bits |= 1 << p;
            }
            return bits;
        }

        private int bitsInTurn(int all, int side) {
            int bits = 0;
            int wanted = side;
            for (int yard = 0; yard < YARDS; yard++) {
                for (int p = 0; p < places.count; p++) {
                    int point = places.number(p, POINT);
                    if (isIn(all, p) && yardOf(point) == yard && sideOf(point) == wanted) {
                        bits |= 1 << p;
                        wanted = 1 - wanted;
                    }
                }
            }
            return bits;
        }

        /** The light of a SORT where only its HEIGHT and a square of YARDS stand between. */
        int bareLight(int sort, int square) {
            int height = sorts.number(sort, HEIGHT);
            int below = height * height + square;
            return below < 1 ? 0 : 1000 * sorts.number(sort, POWER) / below;
        }

        /** The light that a lamp of a SORT at a PLACE gives a POINT. */
        int given(int place, int sort, int point, int month) {
            if (!isMonth(month)) return 0;
            int from = places.number(place, POINT);
            if (countBetween(walls, from, point) > 0) return 0;
            int yards = yardOf(from) - yardOf(point);
            int square = yards * yards;
            if (sideOf(from) != sideOf(point)) square += measures[WIDE] * measures[WIDE];
            int light = bareLight(sort, square);
            int shading = countBetween(trees, from, point);
            for (int t = 0; t < shading; t++) {
                light = light * (4 - LEAVES[month]) / 4;
            }
            return light;
        }

        private int countBetween(Table table, int from, int to) {
            int low = Math.min(yardOf(from), yardOf(to));
            int high = Math.max(yardOf(from), yardOf(to));
            int between = 0;
            for (int i = 0; i < table.count; i++) {
                int point = table.number(i, POINT);
                int yard = yardOf(point);
                if (sideOf(point) == sideOf(from) && yard > low && yard < high) between++;
            }
            return between;
        }

        private int ofLamp(int place, boolean isHalf, int point, int month) {
            int light = given(place, places.number(place, ITS_SORT), point, month);
            return isHalf ? light / 2 : light;
        }

        int ofLamps(int burning, boolean isHalf, int point, int month) {
            int light = 0;
            for (int p = 0; p < places.count; p++) {
                if (isIn(burning, p)) light += ofLamp(p, isHalf, point, month);
            }
            return light;
        }

        int faceOfLamps(int burning, boolean isHalf, int point, int month) {
            int light = 0;
            for (int p = 0; p < places.count; p++) {
                boolean isAhead = yardOf(places.number(p, POINT)) > yardOf(point);
                if (isAhead && isIn(burning, p)) light += ofLamp(p, isHalf, point, month) / 2;
            }
            return light;
        }

        /** The PLACE whose lamp gives a POINT most; NONE if none gives any. */
        int brightest(int burning, boolean isHalf, int point, int month) {
            int best = NONE;
            int most = 0;
            for (int p = 0; p < places.count; p++) {
                int light = isIn(burning, p) ? ofLamp(p, isHalf, point, month) : 0;
                if (light > most) {
                    best = p;
                    most = light;
                }
            }
            return best;
        }

        int ofShop(int shop, int point, int hour) {
            int from = shops.number(shop, POINT);
            if (shops.number(shop, TILL) <= hour || sideOf(from) != sideOf(point)) return 0;
            int light = shops.number(shop, SHOP_LIGHT);
            switch (Math.abs(yardOf(from) - yardOf(point))) {
                case 0: return light;
                case 1: return light / 2;
                case 2: return light / 4;
                default: return 0;
            }
        }

        int ofShops(int point, int hour) {
            int light = 0;
            for (int i = 0; i < shops.count; i++) {
                light += ofShop(i, point, hour);
            }
            return light;
        }

        int coinOf(int set, int sort) {
            int coin = 0;
            for (int p = 0; p < places.count; p++) {
                if (isIn(set, p)) coin += sorts.number(sort, COIN) + places.number(p, WIRE);
            }
            return coin;
        }

        int bulbsAsTheyGo(int months) {
            int coin = 0;
            for (int p = 0; p < places.count; p++) {
                if (!hasLamp(p)) continue;
                int sort = places.number(p, ITS_SORT);
                int life = sorts.number(sort, LIFE);
                int times = life < 1 ? 0 : months / life;
                coin += times * (sorts.number(sort, COIN) + 30);
            }
            return coin;
        }

        int bulbsTogether(int months) {
            int coin = 0;
            int shortest = months + 1;
            for (int p = 0; p < places.count; p++) {
                if (!hasLamp(p)) continue;
                int sort = places.number(p, ITS_SORT);
                coin += sorts.number(sort, COIN);
                shortest = Math.min(shortest, sorts.number(sort, LIFE));
            }
            // Without lamps, or if all live longer than that, none is changed.
            return shortest < 1 ? 0 : months / shortest * (coin + 50);
        }
    }

    /** What a SHELF holds: NOTHING, a ROW, or a LAYING. */
    private static final class Shelf {
        private final long[] elements = new long[MOST_ELEMENTS];
        /** As holds() tells it: NONE, the KIND of a LAYING, or ROW and the SORT of the elements. */
        private int content = NONE;
        private int size = 0;
        private int by = 0;
        private int wereThere = 0;

        boolean isRow() {
            return content >= ROW;
        }

        boolean isLaying() {
            return content >= LAYING && content < ROW;
        }

        void holdNothing() {
            content = NONE;
            size = 0;
        }

        void holdRow(int sort, int n) {
            content = ROW + sort;
            size = Math.max(0, Math.min(n, MOST_ELEMENTS));
            Arrays.fill(elements, 0L);
        }

        void holdLaying(int kind, int a, int places) {
            boolean needsIt = kind == ONE || kind == TURN || kind == DIM || kind == TOLD;
            content = kind;
            size = 0;
            by = needsIt ? a : 0;
            wereThere = places;
        }

        boolean has(int i) {
            return i >= 0 && i < size;
        }

        boolean hasRun(int i, int n) {
            return i >= 0 && n >= 0 && (long) i + n <= size;
        }

        long elementAt(int i) {
            return i >= 0 && i < size ? elements[i] : 0L;
        }

        int intAt(int i) {
            return (int) elementAt(i);
        }

        void put(int i, long v) {
            if (has(i)) elements[i] = lowestBits(v);
        }

        private long lowestBits(long v) {
            switch (content - ROW) {
                case 0: return (byte) v;
                case 1: return (short) v;
                case 2: return (int) v;
                default: return v;
            }
        }

        /** Whether its LAYING is of a KIND, or of one under it. */
        boolean isOfKind(int kind) {
            if (kind == LAYING || kind == content) return isLaying();
            return kind == BOTH && (content == TURN || content == THERE);
        }

        boolean isHalfAt(int hour) {
            return content == DIM && hour >= by;
        }
    }

    /** Reads a STREET from the letters of a ROW. */
    private static final class StreetText {
        private final int[] numbers = new int[4];
        private int reached = 0;
        private int items = 0;

        /** Adds all ITEMS to a street; the FAULT, or NONE. */
        int read(Shelf letters, Street into) {
            reached = 0;
            items = 0;
            for (int turn = 0; turn <= letters.size; turn++) {
                int fault = readItem(letters, into);
                if (fault != NONE) return fault;
                items++;
                if (reached >= letters.size) return NONE;
                if (letters.intAt(reached) != ';') return reached;
                reached++;
            }
            return reached;
        }

        private int readItem(Shelf letters, Street into) {
            int start = reached;
            int item = readWord(letters);
            if (item < 0 || item >= NUMBERS.length) return reached;
            if (!into.hasRoom(item)) return start;
            Arrays.fill(numbers, 0);
            for (int k = 0; k < NUMBERS[item]; k++) {
                if (letters.intAt(reached) != ' ') return reached;
                reached++;
                if (!readNumber(letters, item, k)) return reached;
            }
            into.add(item, numbers);
            return NONE;
        }

        /** Goes on as far as any word does; the ITEM whose word stands whole, or NONE. */
        private int readWord(Shelf letters) {
            int start = reached;
            for (int item = 0; item < ITEMS; item++) {
                String word = wordOf(item);
                int same = sameLetters(letters, start, word);
                reached = Math.max(reached, start + same);
                // No word begins another one, so no other word goes on from here.
                if (same == word.length()) return item;
            }
            return NONE;
        }

        private static int sameLetters(Shelf letters, int start, String word) {
            int same = 0;
            while (same < word.length() && letters.intAt(start + same) == word.charAt(same)) {
                same++;
            }
            return same;
        }

        /** Goes on behind the NUMBER, or stays at its first digit if it may not be. */
        private boolean readNumber(Shelf letters, int item, int k) {
            int value = 0;
            int digits = 0;
            while (digits < 3 && isDigit(letters.intAt(reached + digits))) {
                value = value * 10 + letters.intAt(reached + digits) - '0';
                digits++;
            }
            if (digits == 0 || k >= numbers.length || !mayBe(item, k, value)) return false;
            numbers[k] = value;
            reached += digits;
            return true;
        }

        private static boolean isDigit(int letter) {
            return letter >= '0' && letter <= '9';
        }
    }

    /** LIGHT of the POINTS within LONG, and what rule it breaks. */
    private static final class Lights {
        private final boolean[] isPool = new boolean[POINTS];
        private final int[] ofLamps = new int[POINTS];
        private final int[] light = new int[POINTS];
        private int points = 0;

        void measure(Street street) {
            points = Math.min(street.measures[LONG] * 2, POINTS);
            for (int point = 0; point < points; point++) {
                isPool[point] = street.isPool(point);
            }
        }

        void shine(Street street, int burning, boolean isHalf, int month) {
            measure(street);
            for (int point = 0; point < points; point++) {
                ofLamps[point] = street.ofLamps(burning, isHalf, point, month);
            }
        }

        void addShops(Street street, int hour) {
            for (int point = 0; point < points; point++) {
                light[point] = ofLamps[point] + street.ofShops(point, hour);
            }
        }

        /** By what it is FAULTY (1 to 4); 0: it is WELL. */
        int ruleBroken(Street street) {
            if (firstTooDark(street) != NONE) return DARK_RULE;
            if (firstBrightPool() != NONE) return POOL_RULE;
            if (firstUneven(street) != NONE) return EVEN_RULE;
            return firstBrightWindow(street) != NONE ? WINDOW_RULE : 0;
        }

        /** The first POINT at which a rule is broken; NONE if it holds. */
        int pointAgainst(Street street, int rule) {
            switch (rule) {
                case DARK_RULE: return firstTooDark(street);
                case POOL_RULE: return firstBrightPool();
                case EVEN_RULE: return firstUneven(street);
                case WINDOW_RULE: return firstBrightWindow(street);
                default: return NONE;
            }
        }

        /** The least LIGHT, POOLS aside; NONE if all are POOLS. */
        int leastLight() {
            int point = darkest();
            return point >= 0 && point < POINTS ? light[point] : NONE;
        }

        private int firstTooDark(Street street) {
            for (int point = 0; point < points; point++) {
                if (light[point] < street.measures[LEAST] && !isPool[point]) return point;
            }
            return NONE;
        }

        private int firstBrightPool() {
            for (int point = 0; point < points; point++) {
                if (light[point] > POOL_LIGHT && isPool[point]) return point;
            }
            return NONE;
        }

        private int firstUneven(Street street) {
            int darkest = darkest();
            if (darkest < 0 || darkest >= POINTS) return NONE;
            int bearable = street.measures[EVEN] * light[darkest];
            for (int point = 0; point < points; point++) {
                if (light[point] > bearable && !isPool[point]) return darkest;
            }
            return NONE;
        }

        private int firstBrightWindow(Street street) {
            for (int i = 0; i < street.windows.count; i++) {
                int point = street.windows.number(i, POINT);
                boolean counts = point >= 0 && point < points;
                if (counts && light[point] > street.windows.number(i, BAR)) return point;
            }
            return NONE;
        }

        /** The first POINT of the least LIGHT, POOLS aside; NONE if all are POOLS. */
        private int darkest() {
            int darkest = NONE;
            int least = 0;
            for (int point = 0; point < points; point++) {
                if (isPool[point]) continue;
                if (darkest == NONE || light[point] < least) {
                    darkest = point;
                    least = light[point];
                }
            }
            return darkest;
        }
    }

    /** Chooses among all sets of PLACES by one SORT in one MONTH at HOUR 0. */
    private static final class Choice {
        private final int[] ofLamp = new int[MOST_PLACES * POINTS];
        private final int[] ofShops = new int[POINTS];
        private final int[] floor = new int[POINTS];
        private final int[] ceiling = new int[POINTS];
        private final int[] coins = new int[MOST_PLACES];
        private final Lights lights = new Lights();
        private int points = 0;
        private int places = 0;

        void prepare(Street street, int sort, int month) {
            lights.measure(street);
            points = lights.points;
            places = Math.min(street.places.count, MOST_PLACES);
            for (int point = 0; point < points; point++) {
                boolean isPool = lights.isPool[point];
                floor[point] = isPool ? 0 : street.measures[LEAST];
                ceiling[point] = isPool ? POOL_LIGHT : Integer.MAX_VALUE;
                ofShops[point] = street.ofShops(point, 0);
                for (int p = 0; p < places; p++) {
                    ofLamp[p * POINTS + point] = street.given(p, sort, point, month);
                }
            }
            for (int p = 0; p < places; p++) {
                coins[p] = street.coinOf(1 << p, sort);
            }
        }

        /** The set that a wish chooses; NONE if there is none. */
        int best(Street street, int wish) {
            int best = NONE;
            for (int set = 0; set < 1 << places; set++) {
                if (best != NONE && !isBetter(set, best, wish)) continue;
                boolean isFit = isWell(street, set) && (wish != FIRM || isFirm(set));
                if (isFit) best = set;
            }
            return best;
        }

        private boolean isBetter(int set, int other, int wish) {
            int fewer = Integer.bitCount(set) - Integer.bitCount(other);
            if (wish == FEWEST && fewer != 0) return fewer < 0;
            return coinsOf(set) < coinsOf(other);
        }

        private int coinsOf(int set) {
            int coin = 0;
            for (int p = 0; p < places; p++) {
                if (isIn(set, p)) coin += coins[p];
            }
            return coin;
        }

        private boolean isWell(Street street, int set) {
            // Most sets leave some POINT too dark, and that is seen at once here.
            return isBrightEnough(set) && lights.ruleBroken(street) == 0;
        }

        /** Whether rules 1 and 2 hold also without any one lamp of a set. */
        private boolean isFirm(int set) {
            for (int p = 0; p < places; p++) {
                if (isIn(set, p) && !isBrightEnough(set & ~(1 << p))) return false;
            }
            return true;
        }

        /** Whether rules 1 and 2 hold; if so, lights has the LIGHT of all POINTS. */
        private boolean isBrightEnough(int set) {
            for (int point = 0; point < points; point++) {
                int light = ofShops[point];
                for (int p = 0; p < places; p++) {
                    if (isIn(set, p)) light += ofLamp[p * POINTS + point];
                }
                if (light < floor[point] || light > ceiling[point]) return false;
                lights.light[point] = light;
            }
            return true;
        }

        /** BOUND: how many lamps the POINT that needs most of them needs. */
        int lampsNeeded() {
            int most = 0;
            for (int point = 0; point < points; point++) {
                int needed = lampsNeededAt(point);
                if (needed == NONE) return NONE;
                most = Math.max(most, needed);
            }
            return most;
        }

        private int lampsNeededAt(int point) {
            int light = ofShops[point];
            int taken = 0;
            for (int n = 0; n < places; n++) {
                if (light >= floor[point]) return n;
                int next = brightestAside(taken, point);
                if (next == NONE) return NONE;
                light += ofLamp[next * POINTS + point];
                taken |= 1 << next;
            }
            return light >= floor[point] ? places : NONE;
        }

        private int brightestAside(int taken, int point) {
            int best = NONE;
            for (int p = 0; p < places; p++) {
                if (isIn(taken, p)) continue;
                if (best == NONE || ofLamp[p * POINTS + point] > ofLamp[best * POINTS + point]) best = p;
            }
            return best;
        }
    }

    /** ACTS of a LAYING: each KIND's own bodies run before those of the KINDS above it. */
    private static final class Acts {
        private final int[] bodies = new int[20];
        private int ran = 0;
        private int kind = LAYING;
        private int m = 0;
        private int k = 0;

        void forget() {
            ran = 0;
        }

        void take(int itsKind, int shelf, int by) {
            kind = itsKind;
            m = shelf;
            k = by;
        }

        int bodyAt(int i) {
            return i >= 0 && i < ran && i < bodies.length ? bodies[i] : NONE;
        }

        private void begin(int body) {
            if (ran < bodies.length) bodies[ran] = body;
            ran++;
        }

        int burns(int x) {
            if (kind == ONE) begin(20);
            if (kind == TURN) begin(41);
            if (kind == THERE) begin(60);
            begin(10);
            int burns = x + m;
            switch (kind) {
                case ONE: return burns + k;
                case TURN: return burns - m;
                case THERE: return burns ^ 5;
                default: return burns;
            }
        }

        int falls(int x) {
            boolean isBoth = kind == BOTH || kind == TURN || kind == THERE;
            if (kind == TURN) begin(40);
            if (isBoth) begin(30);
            if (kind == TOLD) begin(70);
            begin(11);
            int falls = burns(kind == TURN ? x + 1 : x) * 2;
            if (isBoth) return falls * 3;
            return kind == TOLD ? falls * 2 : falls;
        }

        int costs(int x) {
            if (kind == DIM) begin(50);
            if (kind == TOLD) begin(71);
            int y = kind == TOLD ? x - k : x;
            begin(12);
            int first = falls(y);
            int costs = first ^ burns(y - k);
            return kind == DIM ? -costs : costs;
        }
    }
}
