import java.util.ArrayList;
import java.util.Comparator;
import java.util.List;
import java.util.regex.Matcher;
import java.util.regex.Pattern;
import java.util.stream.IntStream;

/** What LightAlong does, done in another way: lists, streams, patterns and real classes for the KINDS. */
final class Model {
    private record Sort(int height, int power, int coin, int life) { }
    private record Window(int point, int bar) { }
    private record Shop(int point, int light, int till) { }
    private record Place(int point, int wire, int sort, boolean out) {
        Place with(int newSort, boolean newOut) {
            return new Place(point, wire, newSort, newOut);
        }
    }

    /** All that THE IMAGE takes. */
    private static final class State {
        int[] asked = {20, 8, 6, 40};
        List<Sort> sorts = new ArrayList<>();
        List<Place> places = new ArrayList<>();
        List<Integer> trees = new ArrayList<>();
        List<Integer> walls = new ArrayList<>();
        List<Integer> pools = new ArrayList<>();
        List<Window> windows = new ArrayList<>();
        List<Shop> shops = new ArrayList<>();

        State copy() {
            State s = new State();
            s.asked = asked.clone();
            s.sorts.addAll(sorts);
            s.places.addAll(places);
            s.trees.addAll(trees);
            s.walls.addAll(walls);
            s.pools.addAll(pools);
            s.windows.addAll(windows);
            s.shops.addAll(shops);
            return s;
        }
    }

    private static class Laying {
        int kind;
        int m;
        int k;
        int told;
        List<Integer> ran;

        int burns(int x) { ran.add(10); return x + m; }
        int falls(int x) { ran.add(11); return burns(x) * 2; }
        int costs(int x) { ran.add(12); return falls(x) ^ burns(x - k); }
        boolean burnsAt(State s, int p) { return true; }
        boolean halved(int hour) { return false; }
    }

    private static final class One extends Laying {
        @Override int burns(int x) { ran.add(20); return super.burns(x) + k; }
        @Override boolean burnsAt(State s, int p) { return s.places.get(p).point() % 2 == k; }
    }

    private static class Both extends Laying {
        @Override int falls(int x) { ran.add(30); return super.falls(x) * 3; }
    }

    private static final class Turn extends Both {
        @Override int falls(int x) { ran.add(40); return super.falls(x + 1); }
        @Override int burns(int x) { ran.add(41); return super.burns(x) - m; }
        @Override boolean burnsAt(State s, int p) {
            List<Integer> order = IntStream.range(0, s.places.size()).boxed()
                .filter(i -> s.places.get(i).sort() >= 0 && !s.places.get(i).out())
                .sorted(Comparator.comparingInt(i -> s.places.get(i).point() / 2)).toList();
            int last = 1 - k;
            for (int i : order) {
                int side = s.places.get(i).point() % 2;
                if (side == last) continue;
                last = side;
                if (i == p) return true;
            }
            return false;
        }
    }

    private static final class Dim extends Laying {
        @Override int costs(int x) { ran.add(50); return -super.costs(x); }
        @Override boolean halved(int hour) { return hour >= k; }
    }

    private static final class There extends Both {
        @Override int burns(int x) { ran.add(60); return super.burns(x) ^ 5; }
        @Override boolean burnsAt(State s, int p) { return (told >> p) % 2 == 1; }
    }

    private static final class Told extends Laying {
        @Override int falls(int x) { ran.add(70); return super.falls(x) * 2; }
        @Override int costs(int x) { ran.add(71); return super.costs(x - k); }
        @Override boolean burnsAt(State s, int p) { return (k >> p) % 2 == 1; }
    }

    private record Row(int sort, long[] elements) { }

    private static final int[] LEAVES = {0, 0, 0, 1, 2, 3, 3, 3, 2, 1, 0, 0};
    private static final int[] MOST = {6, 9, 12, 12, 12, 8, 6};
    private static final String N = "[0-9]{1,3}";
    private static final String ITEM = "((least|even|wide|long|tree|wall|pool) " + N + "|(place|window) " + N + " " + N
        + "|shop " + N + " " + N + " " + N + "|sort " + N + " " + N + " " + N + " " + N + ")";
    private static final Pattern STREET = Pattern.compile(ITEM + "(;" + ITEM + ")*");
    private static final Pattern TOKEN =
        Pattern.compile("(least|even|wide|long|tree|wall|pool|place|window|shop|sort)|" + N);

    private State now = new State();
    private State image = null;
    private final Object[] shelves = new Object[8];
    private final int[] refusals = new int[8];
    private List<Integer> ran = new ArrayList<>();
    private int fault = -1;

    private int no(int number) {
        refusals[-number]++;
        return number;
    }

    private int noApart(int number) {
        return no(number) - 10;
    }

    private static boolean in(int v, int low, int high) {
        return low <= v && v <= high;
    }

    int row(int s, int sort, int n) {
        if (!in(s, 0, 7)) return no(-1);
        if (n < 0) return no(-4);
        if (!in(sort, 0, 3)) return no(-6);
        if (n > 120) return no(-7);
        shelves[s] = new Row(sort, new long[n]);
        return 1;
    }

    /** -1, -2 or -3 if no such class of thing is in a SHELF, or 0. */
    private int wants(int s, Class<?> wanted) {
        if (!in(s, 0, 7)) return -1;
        if (shelves[s] == null) return -3;
        return wanted.isInstance(shelves[s]) ? 0 : -2;
    }

    int set(int s, int i, long v) {
        int w = wants(s, Row.class);
        if (w != 0) return no(w);
        Row r = (Row) shelves[s];
        if (!in(i, 0, r.elements().length - 1)) return no(-5);
        int cut = 64 - (8 << r.sort());
        r.elements()[i] = v << cut >> cut;
        return 1;
    }

    int copy(int p, int q, int i, int j, int n) {
        int a = wants(p, Row.class);
        int b = wants(q, Row.class);
        if (a == -1 || b == -1) return no(-1);
        if (a == -2 || b == -2) return no(-2);
        if (a == 0 && b == 0 && ((Row) shelves[p]).sort() != ((Row) shelves[q]).sort()) return no(-2);
        if (a == -3 || b == -3) return no(-3);
        if (n < 0) return no(-4);
        long[] from = ((Row) shelves[p]).elements();
        long[] to = ((Row) shelves[q]).elements();
        if (i < 0 || j < 0 || from.length - n < i || to.length - n < j) return no(-5);
        long[] ahead = from.clone();
        for (int e = 0; e < n; e++) to[j + e] = ahead[i + e];
        return 1;
    }

    long element(int s, int i) {
        if (wants(s, Row.class) != 0) return 0;
        long[] e = ((Row) shelves[s]).elements();
        return in(i, 0, e.length - 1) ? e[i] : 0;
    }

    int laying(int s, int kind, int a) {
        if (!in(s, 0, 7) || !in(kind, -1, 6)) return no(-1);
        if (kind == -1) {
            shelves[s] = null;
            return 0;
        }
        int[] highest = {-1, 1, -1, 1, 11, -1, 511};
        if (highest[kind] >= 0 && !in(a, 0, highest[kind])) return no(-6);
        Laying l = switch (kind) {
            case 0 -> new Laying();
            case 1 -> new One();
            case 2 -> new Both();
            case 3 -> new Turn();
            case 4 -> new Dim();
            case 5 -> new There();
            default -> new Told();
        };
        l.kind = kind;
        l.m = s;
        l.k = highest[kind] >= 0 ? a : 0;
        for (int p = 0; p < now.places.size(); p++) if (now.places.get(p).sort() >= 0) l.told += 1 << p;
        shelves[s] = l;
        return 1;
    }

    int holds(int s) {
        if (!in(s, 0, 7) || shelves[s] == null) return -1;
        return shelves[s] instanceof Row r ? 100 + r.sort() : ((Laying) shelves[s]).kind;
    }

    int says(int s, int kind) {
        Class<?>[] kinds = {Laying.class, One.class, Both.class, Turn.class, Dim.class, There.class, Told.class};
        if (!in(kind, 0, 6)) return no(-1);
        int w = wants(s, kinds[kind]);
        if (w != 0) return no(w);
        Laying l = (Laying) shelves[s];
        int bits = 0;
        for (int p = 0; p < now.places.size(); p++) {
            Place place = now.places.get(p);
            if (place.sort() >= 0 && !place.out() && l.burnsAt(now, p)) bits += 1 << p;
        }
        if (kind == 0) return Integer.bitCount(bits);
        if (kind == 2) return bits;
        return kind == 5 ? l.told : l.k;
    }

    int sort(int height, int power, int coin, int life) {
        if (!in(height, 1, 12) || !in(power, 1, 99) || !in(coin, 0, 99) || !in(life, 1, 99)) return no(-6);
        if (now.sorts.size() == 6) return no(-7);
        now.sorts.add(new Sort(height, power, coin, life));
        return now.sorts.size() - 1;
    }

    int place(int point, int wire) {
        if (!in(point, 0, 119)) return no(-1);
        if (!in(wire, 0, 99)) return no(-6);
        if (now.places.size() == 9) return no(-7);
        now.places.add(new Place(point, wire, -1, false));
        return now.places.size() - 1;
    }

    int stand(int kind, int point) {
        if (!in(kind, 0, 2) || !in(point, 0, 119)) return no(-1);
        List<Integer> of = List.of(now.trees, now.walls, now.pools).get(kind);
        if (of.size() == (kind == 2 ? 6 : 12)) return no(-7);
        of.add(point);
        return of.size();
    }

    int window(int point, int bar) {
        if (!in(point, 0, 119)) return no(-1);
        if (!in(bar, 0, 999)) return no(-6);
        if (now.windows.size() == 12) return no(-7);
        now.windows.add(new Window(point, bar));
        return now.windows.size();
    }

    int shop(int point, int light, int till) {
        if (!in(point, 0, 119)) return no(-1);
        if (!in(light, 1, 999) || !in(till, 0, 11)) return no(-6);
        if (now.shops.size() == 8) return no(-7);
        now.shops.add(new Shop(point, light, till));
        return now.shops.size() - 1;
    }

    int ask(int what, int v) {
        int[] low = {0, 1, 1, 1};
        int[] high = {999, 99, 12, 60};
        if (!in(what, 0, 3) || !in(v, low[what], high[what])) return no(-6);
        int was = now.asked[what];
        now.asked[what] = v;
        return was;
    }

    int street(int s) {
        int w = wants(s, Row.class);
        if (w != 0) return no(w);
        StringBuilder text = new StringBuilder();
        for (long e : ((Row) shelves[s]).elements()) text.append((int) e < 0 || (int) e > 126 ? '~' : (char) (int) e);
        State before = now.copy();
        int refused = refusals[1] + refusals[6] + refusals[7];
        fault = readStreet(text.toString());
        if (refused != refusals[1] + refusals[6] + refusals[7]) throw new IllegalStateException("a refusal inside");
        if (fault < 0) return text.toString().split(";").length;
        now = before;
        return no(-6);
    }

    /** How far a text goes on as a street does, numbers and room aside. */
    private static int goesOn(String text) {
        for (int end = 1; end <= text.length(); end++) {
            Matcher m = STREET.matcher(text.substring(0, end));
            if (!m.matches() && !m.hitEnd()) return end - 1;
        }
        return text.length();
    }

    private int readStreet(String text) {
        int end = goesOn(text);
        String word = "";
        List<Integer> numbers = new ArrayList<>();
        Matcher m = TOKEN.matcher(text.substring(0, end));
        while (m.find()) {
            if (m.group(1) != null) {
                word = m.group(1);
                numbers.clear();
                if (!isRoomFor(word)) return m.start();
                continue;
            }
            int n = Integer.parseInt(m.group());
            if (!mayBe(word, numbers.size(), n)) return m.start();
            numbers.add(n);
            if (numbers.size() == highest(word).length) addItem(word, numbers);
        }
        return STREET.matcher(text).matches() ? -1 : end;
    }

    private boolean isRoomFor(String word) {
        int[] have = {now.sorts.size(), now.places.size(), now.trees.size(), now.walls.size(), now.windows.size(),
            now.shops.size(), now.pools.size()};
        int i = List.of("sort", "place", "tree", "wall", "window", "shop", "pool").indexOf(word);
        return i < 0 || have[i] < MOST[i];
    }

    private static int[] highest(String word) {
        return switch (word) {
            case "least" -> new int[] {999};
            case "even" -> new int[] {99};
            case "wide" -> new int[] {12};
            case "long" -> new int[] {60};
            case "sort" -> new int[] {12, 99, 99, 99};
            case "place" -> new int[] {119, 99};
            case "window" -> new int[] {119, 999};
            case "shop" -> new int[] {119, 999, 11};
            default -> new int[] {119};
        };
    }

    private static boolean mayBe(String word, int k, int n) {
        boolean mayBe0 = switch (word) {
            case "even", "wide", "long" -> false;
            case "sort" -> k == 2;
            case "shop" -> k != 1;
            default -> true;
        };
        return n <= highest(word)[k] && (n > 0 || mayBe0);
    }

    private void addItem(String word, List<Integer> n) {
        int first = n.get(0);
        switch (word) {
            case "least" -> ask(0, first);
            case "even" -> ask(1, first);
            case "wide" -> ask(2, first);
            case "long" -> ask(3, first);
            case "sort" -> sort(first, n.get(1), n.get(2), n.get(3));
            case "place" -> place(first, n.get(1));
            case "tree" -> stand(0, first);
            case "wall" -> stand(1, first);
            case "pool" -> stand(2, first);
            case "window" -> window(first, n.get(1));
            default -> shop(first, n.get(1), n.get(2));
        }
    }

    int fault() {
        return fault;
    }

    int sortOf(int sort, int what) {
        if (!isSort(sort) || !in(what, 0, 3)) return no(-5);
        Sort s = now.sorts.get(sort);
        return new int[] {s.height(), s.power(), s.coin(), s.life()}[what];
    }

    int placeOf(int place, int what) {
        if (!isPlace(place) || !in(what, 0, 3)) return no(-5);
        Place p = now.places.get(place);
        return new int[] {p.point(), p.wire(), p.sort(), p.out() ? 1 : 0}[what];
    }

    private boolean isSort(int sort) {
        return in(sort, 0, now.sorts.size() - 1);
    }

    private boolean isPlace(int place) {
        return in(place, 0, now.places.size() - 1);
    }

    int lamp(int place, int sort) {
        if (!isPlace(place) || sort != -1 && !isSort(sort)) return noApart(-1);
        Place p = now.places.get(place);
        now.places.set(place, p.with(sort, false));
        return p.sort();
    }

    int out(int place, boolean is) {
        if (!isPlace(place)) return no(-1);
        Place p = now.places.get(place);
        if (p.sort() < 0) return no(-6);
        now.places.set(place, p.with(p.sort(), is));
        return p.out() != is ? 1 : 0;
    }

    private static int given(State s, Place p, Sort sort, int point, int month) {
        int yards = Math.abs(p.point() / 2 - point / 2);
        int below = sort.height() * sort.height() + yards * yards;
        if (p.point() % 2 != point % 2) below += s.asked[2] * s.asked[2];
        int light = 1000 * sort.power() / below;
        for (int tree : s.trees) if (isBetween(tree, p.point(), point)) light = light * (4 - LEAVES[month]) / 4;
        for (int wall : s.walls) if (isBetween(wall, p.point(), point)) light = 0;
        return light;
    }

    private static boolean isBetween(int what, int from, int to) {
        int y = what / 2;
        int a = from / 2;
        int b = to / 2;
        return what % 2 == from % 2 && (a < y && y < b || b < y && y < a);
    }

    private static int lampGives(State s, Laying l, int p, int point, int month, int hour) {
        Place place = s.places.get(p);
        if (place.sort() < 0 || place.out() || !l.burnsAt(s, p)) return 0;
        int light = given(s, place, s.sorts.get(place.sort()), point, month);
        return l.halved(hour) ? light / 2 : light;
    }

    private static int shopGives(Shop shop, int point, int hour) {
        if (shop.till() <= hour || shop.point() % 2 != point % 2) return 0;
        int yards = Math.abs(shop.point() / 2 - point / 2);
        return yards > 2 ? 0 : shop.light() >> yards;
    }

    private static int lightOf(State s, Laying l, int point, int month, int hour) {
        int light = s.shops.stream().mapToInt(shop -> shopGives(shop, point, hour)).sum();
        for (int p = 0; p < s.places.size(); p++) light += lampGives(s, l, p, point, month, hour);
        return light;
    }

    private int wantsLight(int s, int point, int month, int hour) {
        if (!in(point, 0, 119)) return -1;
        int w = wants(s, Laying.class);
        if (w != 0) return w;
        return in(month, 0, 11) && in(hour, 0, 11) ? 0 : -6;
    }

    int light(int s, int point, int month, int hour) {
        int w = wantsLight(s, point, month, hour);
        return w != 0 ? no(w) : lightOf(now, (Laying) shelves[s], point, month, hour);
    }

    int face(int s, int point, int month, int hour) {
        int w = wantsLight(s, point, month, hour);
        if (w != 0) return no(w);
        int face = 0;
        for (int p = 0; p < now.places.size(); p++) {
            if (now.places.get(p).point() / 2 <= point / 2) continue;
            face += lampGives(now, (Laying) shelves[s], p, point, month, hour) / 2;
        }
        return face;
    }

    /** {0, NONE}, or by what it is FAULTY and where. */
    private static int[] judged(State s, Laying l, int month, int hour) {
        int[] light = IntStream.range(0, s.asked[3] * 2).map(p -> lightOf(s, l, p, month, hour)).toArray();
        int[] dry = IntStream.range(0, light.length).filter(p -> !s.pools.contains(p)).toArray();
        for (int p : dry) if (light[p] < s.asked[0]) return new int[] {1, p};
        for (int p = 0; p < light.length; p++) if (s.pools.contains(p) && light[p] > 5) return new int[] {2, p};
        int least = IntStream.of(dry).map(p -> light[p]).min().orElse(0);
        int most = IntStream.of(dry).map(p -> light[p]).max().orElse(0);
        if (s.asked[1] * least < most) {
            return new int[] {3, IntStream.of(dry).filter(p -> light[p] == least).findFirst().orElse(-1)};
        }
        for (Window w : s.windows) {
            if (w.point() < light.length && light[w.point()] > w.bar()) return new int[] {4, w.point()};
        }
        return new int[] {0, -1};
    }

    int faulty(int s, int month, int hour) {
        int w = wantsLight(s, 0, month, hour);
        return w != 0 ? no(w) : judged(now, (Laying) shelves[s], month, hour)[0];
    }

    int dark(int s, int month, int hour) {
        int w = wantsLight(s, 0, month, hour);
        return w != 0 ? noApart(w) : judged(now, (Laying) shelves[s], month, hour)[1];
    }

    private boolean isSet(int set) {
        return in(set, 0, (1 << now.places.size()) - 1);
    }

    private int coins(int set, int sort) {
        int coin = 0;
        for (int p = 0; p < now.places.size(); p++) {
            if ((set >> p) % 2 == 1) coin += now.places.get(p).wire() + now.sorts.get(sort).coin();
        }
        return coin;
    }

    int coin(int set, int sort) {
        return isSort(sort) && isSet(set) ? coins(set, sort) : no(-1);
    }

    private State laid(int set, int sort) {
        State s = now.copy();
        for (int p = 0; p < s.places.size(); p++) {
            s.places.set(p, s.places.get(p).with((set >> p) % 2 == 1 ? sort : -1, false));
        }
        return s;
    }

    private boolean isFirm(State s, int month) {
        for (int p = 0; p < s.places.size(); p++) {
            Place place = s.places.get(p);
            if (place.sort() < 0) continue;
            s.places.set(p, place.with(place.sort(), true));
            int rule = judged(s, new Laying(), month, 0)[0];
            s.places.set(p, place);
            if (rule == 1 || rule == 2) return false;
        }
        return true;
    }

    private int choose(int sort, int month, boolean byLamps, boolean firm) {
        Comparator<Integer> order = Comparator.comparingInt(set -> coins(set, sort));
        if (byLamps) order = Comparator.<Integer>comparingInt(Integer::bitCount).thenComparing(order);
        return IntStream.range(0, 1 << now.places.size()).boxed()
            .filter(set -> judged(laid(set, sort), new Laying(), month, 0)[0] == 0)
            .filter(set -> !firm || isFirm(laid(set, sort), month))
            .min(order.thenComparing(Comparator.naturalOrder())).orElse(-1);
    }

    private int chosen(int sort, int month, boolean byLamps, boolean firm) {
        if (!isSort(sort)) return no(-1);
        if (!in(month, 0, 11)) return no(-6);
        int set = choose(sort, month, byLamps, firm);
        return set < 0 ? no(-5) : set;
    }

    int cheapest(int sort, int month) {
        return chosen(sort, month, false, false);
    }

    int fewest(int sort, int month) {
        return chosen(sort, month, true, false);
    }

    int firm(int sort, int month) {
        return chosen(sort, month, false, true);
    }

    int bound(int sort, int month) {
        if (!isSort(sort)) return noApart(-1);
        if (!in(month, 0, 11)) return noApart(-6);
        for (int n = 0; n <= now.places.size(); n++) {
            int many = n;
            boolean enough = IntStream.range(0, now.asked[3] * 2).filter(p -> !now.pools.contains(p)).allMatch(p -> {
                int shops = now.shops.stream().mapToInt(s -> shopGives(s, p, 0)).sum();
                int lamps = now.places.stream().map(at -> -given(now, at, now.sorts.get(sort), p, month))
                    .sorted().limit(many).mapToInt(v -> -v).sum();
                return shops + lamps >= now.asked[0];
            });
            if (enough) return n;
        }
        return -1;
    }

    int which(int month) {
        if (!in(month, 0, 11)) return no(-6);
        int best = -1;
        int least = Integer.MAX_VALUE;
        for (int sort = 0; sort < now.sorts.size(); sort++) {
            int set = choose(sort, month, false, false);
            if (set >= 0 && coins(set, sort) < least) {
                best = sort;
                least = coins(set, sort);
            }
        }
        return best < 0 ? no(-5) : best;
    }

    int reach(int sort) {
        if (!isSort(sort)) return noApart(-1);
        Sort s = now.sorts.get(sort);
        int yards = 59;
        while (yards >= 0 && 1000 * s.power() / (s.height() * s.height() + yards * yards) < now.asked[0]) yards--;
        return yards;
    }

    int worst() {
        int[] least = new int[12];
        for (int month = 0; month < 12; month++) {
            int m = month;
            least[month] = IntStream.range(0, now.asked[3] * 2).filter(p -> !now.pools.contains(p))
                .map(p -> lightOf(now, new Laying(), p, m, 0)).min().orElse(0);
        }
        int worst = IntStream.of(least).min().orElse(0);
        return IntStream.range(0, 12).filter(m -> least[m] == worst).findFirst().orElse(-1);
    }

    int shade(int s, int point, int month) {
        int w = wantsLight(s, point, month, 0);
        if (w != 0) return noApart(w);
        int[] given = IntStream.range(0, now.places.size())
            .map(p -> lampGives(now, (Laying) shelves[s], p, point, month, 0)).toArray();
        int most = IntStream.of(given).max().orElse(0);
        return most == 0 ? -1 : IntStream.range(0, given.length).filter(p -> given[p] == most).findFirst().orElse(-1);
    }

    int spill(int shop, int month) {
        if (!in(shop, 0, now.shops.size() - 1)) return no(-1);
        if (!in(month, 0, 11)) return no(-6);
        State without = now.copy();
        without.shops.remove(shop);
        Laying all = new Laying();
        return (int) IntStream.range(0, 120).filter(p -> lightOf(now, all, p, month, 0) >= now.asked[0]
            && lightOf(without, all, p, month, 0) < now.asked[0]).count();
    }

    int dim(int month) {
        if (!in(month, 0, 11)) return noApart(-6);
        for (int first = 0; first < 12; first++) {
            Dim dim = new Dim();
            dim.k = first;
            boolean well = IntStream.range(first, 12).allMatch(hour -> judged(now, dim, month, hour)[0] == 0);
            if (well) return first;
        }
        return -1;
    }

    int bulbs(int n, boolean together) {
        if (!in(n, 1, 240)) return no(-6);
        List<Sort> lamps = now.places.stream().filter(p -> p.sort() >= 0).map(p -> now.sorts.get(p.sort())).toList();
        if (lamps.isEmpty()) return 0;
        if (!together) return lamps.stream().mapToInt(s -> n / s.life() * s.coin() + n / s.life() * 30).sum();
        int times = n / lamps.stream().mapToInt(Sort::life).min().orElse(1);
        return times * lamps.stream().mapToInt(Sort::coin).sum() + times * 50;
    }

    int moved(int set, int sort) {
        if (!isSort(sort) || !isSet(set)) return no(-1);
        State then = laid(set, sort);
        return (int) IntStream.range(0, now.places.size())
            .filter(p -> then.places.get(p).sort() != now.places.get(p).sort()).count();
    }

    int lay(int set, int sort) {
        if (!isSort(sort) || !isSet(set)) return no(-1);
        now = laid(set, sort);
        return coins(set, sort);
    }

    int judge(int s, int t, int month) {
        int a = wants(s, Laying.class);
        int b = wants(t, Row.class);
        if (a == -1 || b == -1) return noApart(-1);
        if (a == -2 || b == -2) return noApart(-2);
        if (a == -3 || b == -3) return noApart(-3);
        if (!in(month, 0, 11)) return noApart(-6);
        return IntStream.range(0, 120)
            .filter(p -> lightOf(now, (Laying) shelves[s], p, month, 0) != (int) element(t, p)).findFirst().orElse(-1);
    }

    int act(int s, int act, int x) {
        ran = new ArrayList<>();
        if (wants(s, Laying.class) != 0) return 0;
        Laying l = (Laying) shelves[s];
        l.ran = ran;
        return switch (act) {
            case 0 -> l.burns(x);
            case 1 -> l.falls(x);
            case 2 -> l.costs(x);
            default -> 0;
        };
    }

    int trace(int i) {
        return in(i, 0, Math.min(20, ran.size()) - 1) ? ran.get(i) : -1;
    }

    int image() {
        image = now.copy();
        return now.places.size();
    }

    int restore() {
        if (image == null) return no(-6);
        now = image.copy();
        return now.places.size();
    }

    int status(int what) {
        return switch (what) {
            case 0 -> now.sorts.size();
            case 1 -> now.places.size();
            case 2 -> (int) now.places.stream().filter(p -> p.sort() >= 0).count();
            case 3 -> (int) now.places.stream().filter(Place::out).count();
            case 4 -> now.trees.size();
            case 5 -> now.walls.size();
            case 6 -> now.windows.size();
            case 7 -> now.shops.size();
            case 8 -> now.pools.size();
            case 9 -> ran.size();
            case 11, 12, 13, 14, 15, 16, 17 -> refusals[what - 10];
            default -> -1;
        };
    }
}
