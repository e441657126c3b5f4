import java.util.Random;

/** Random runs of calls: each answer is the Model's. */
public final class ModelTest {
    private static final int RUNS = 1500;
    private static final int CALLS = 512;
    private static final String[] WORDS =
        {"least", "even", "wide", "long", "sort", "place", "tree", "wall", "window", "shop", "pool"};
    private static final int[] NUMBERS = {1, 1, 1, 1, 4, 2, 1, 1, 2, 3, 1};

    private final Due due;
    private final Random random;
    private final LightAlong x = new LightAlong();
    private final Model y = new Model();
    private final int yards;
    private int calls = 0;

    private ModelTest(Due due, int seed) {
        this.due = due;
        this.random = new Random(seed);
        this.yards = 1 + random.nextInt(random.nextBoolean() ? 6 : 60);
        due.about("run " + seed);
    }

    public static void main(String[] args) {
        Due due = new Due();
        for (int seed = 0; seed < RUNS; seed++) new ModelTest(due, seed).run();
        due.end();
    }

    private void run() {
        // Some runs keep to a street with a chance to be WELL, the others ask for anything.
        if (random.nextInt(4) != 0) {
            same("ask LEAST", x.ask(0, few(60)), y.ask(0, last));
            same("ask EVEN", x.ask(1, 20 + few(80)), y.ask(1, 20 + last));
            same("ask WIDE", x.ask(2, 1 + few(3)), y.ask(2, 1 + last));
            same("ask LONG", x.ask(3, yards), y.ask(3, yards));
            for (int i = few(3); i >= 0; i--) {
                int h = 1 + few(6);
                int p = 1 + few(99);
                same("sort", x.sort(h, p, h, p), y.sort(h, p, h, p));
            }
            for (int i = few(9); i >= 0; i--) place();
            for (int i = few(3); i >= 0; i--) same("tree", x.stand(0, few(yards * 2)), y.stand(0, last));
            for (int i = few(3); i >= 0; i--) shop();
            for (int p = 0; p < 9; p++) same("lamp", x.lamp(p, few(3) - 1), y.lamp(p, last - 1));
            for (int s = 0; s < 7; s++) same("laying", x.laying(s, s, few(2)), y.laying(s, s, last));
        }
        // One turn makes 24 calls at most, but for street() and judgeWell(), which look at what is left.
        while (calls < CALLS - 24) call();
    }

    private int last;

    private int few(int n) {
        last = random.nextInt(n);
        return last;
    }

    /** Mostly 0 to n less 1, at times a bit or far beyond. */
    private int near(int n) {
        int far = random.nextInt(60);
        if (far == 0) return random.nextInt();
        if (far == 1) return new int[] {Integer.MIN_VALUE, -1, n, Integer.MAX_VALUE}[random.nextInt(4)];
        if (far == 2) return random.nextInt(n + 4) - 2;
        return random.nextInt(n);
    }

    /** Mostly a POINT within the YARDS of this run. */
    private int point() {
        return random.nextInt(8) == 0 ? near(120) : random.nextInt(yards * 2);
    }

    private void same(String call, long got, long want) {
        calls++;
        due.is(call, got, want);
    }

    private void place() {
        int point = point();
        int wire = random.nextInt(5) == 0 ? near(100) : random.nextInt(6);
        same("place " + point + " " + wire, x.place(point, wire), y.place(point, wire));
    }

    private void shop() {
        int point = point();
        int light = 1 + random.nextInt(random.nextInt(4) == 0 ? 1001 : 100);
        int till = near(12);
        same("shop " + point + " " + light, x.shop(point, light, till), y.shop(point, light, till));
    }

    private void call() {
        int which = random.nextInt(100);
        if (which < 22) callLight(which);
        else if (which < 45) callChoice(which);
        else if (which < 65) callPiece(which);
        else if (which < 70) street();
        else if (which < 88) callShelf(which);
        else callRest(which);
    }

    private void callLight(int which) {
        int s = near(8);
        int p = point();
        int m = near(12);
        int h = near(12);
        String with = " " + s + " " + p + " " + m + " " + h;
        if (which < 6) same("light" + with, x.light(s, p, m, h), y.light(s, p, m, h));
        else if (which < 10) same("face" + with, x.face(s, p, m, h), y.face(s, p, m, h));
        else if (which < 14) same("faulty" + with, x.faulty(s, m, h), y.faulty(s, m, h));
        else if (which < 18) same("dark" + with, x.dark(s, m, h), y.dark(s, m, h));
        else same("shade" + with, x.shade(s, p, m), y.shade(s, p, m));
    }

    private void callChoice(int which) {
        int sort = near(3);
        int m = near(12);
        int set = near(512) & (1 << random.nextInt(10)) - 1;
        String with = " " + sort + " " + m + " " + set;
        // Choosing among all sets takes the Model long, so it's asked for now and then alone.
        int dear = random.nextInt(2 * yards);
        if (which == 22 && dear < 8) same("cheapest" + with, x.cheapest(sort, m), y.cheapest(sort, m));
        else if (which == 23 && dear < 8) same("fewest" + with, x.fewest(sort, m), y.fewest(sort, m));
        else if (which == 24 && dear < 8) same("firm" + with, x.firm(sort, m), y.firm(sort, m));
        else if (which == 25 && dear < 4) same("which" + with, x.which(m), y.which(m));
        else if (which < 27) same("bound" + with, x.bound(sort, m), y.bound(sort, m));
        else if (which < 29) same("coin" + with, x.coin(set, sort), y.coin(set, sort));
        else if (which < 31) same("moved" + with, x.moved(set, sort), y.moved(set, sort));
        else if (which < 33) same("lay" + with, x.lay(set, sort), y.lay(set, sort));
        else if (which < 36) same("reach" + with, x.reach(sort), y.reach(sort));
        else if (which < 38) same("worst", x.worst(), y.worst());
        else if (which < 40) same("dim" + with, x.dim(m), y.dim(m));
        else if (which < 43) same("spill" + with, x.spill(sort, m), y.spill(sort, m));
        else same("bulbs" + with, x.bulbs(set, m > 5), y.bulbs(set, m > 5));
    }

    private void callPiece(int which) {
        int p = point();
        int a = near(1000);
        int place = near(9);
        int sort = near(4) - 1;
        if (which < 46) same("sort", x.sort(place + 1, a / 9, sort + 1, p), y.sort(place + 1, a / 9, sort + 1, p));
        else if (which < 48) place();
        else if (which < 51) same("stand", x.stand(which - 48, p), y.stand(which - 48, p));
        else if (which < 52) same("window " + p + " " + a, x.window(p, a), y.window(p, a));
        else if (which < 54) shop();
        else if (which < 56) same("ask", x.ask(which % 4, place * 6), y.ask(which % 4, place * 6));
        else if (which < 58) same("sortOf", x.sortOf(sort, place), y.sortOf(sort, place));
        else if (which < 60) same("placeOf", x.placeOf(place, sort), y.placeOf(place, sort));
        else if (which < 63) same("lamp " + place + " " + sort, x.lamp(place, sort), y.lamp(place, sort));
        else same("out " + place, x.out(place, a < 500), y.out(place, a < 500));
    }

    private String item() {
        int i = random.nextInt(WORDS.length);
        StringBuilder text = new StringBuilder(WORDS[i]);
        for (int n = 0; n < NUMBERS[i]; n++) {
            int v = random.nextInt(random.nextInt(5) == 0 ? 1300 : i == 3 ? yards : 12);
            text.append(' ').append(random.nextInt(20) == 0 ? "0" : "").append(v);
        }
        return text.toString();
    }

    private void street() {
        StringBuilder text = new StringBuilder(item());
        int more = random.nextInt(5);
        for (int i = 0; i < more; i++) text.append(';').append(item());
        int harm = random.nextInt(6);
        int at = random.nextInt(text.length() + 1);
        if (harm == 0) text.setLength(at);
        if (harm == 1) text.insert(at, "least;wopx0 9".charAt(random.nextInt(13)));
        if (harm == 2 && at < text.length()) text.deleteCharAt(at);
        if (harm == 3 && at < text.length()) text.setCharAt(at, "least;wopx0 9".charAt(random.nextInt(13)));
        if (text.length() > 120) text.setLength(120);
        if (calls + text.length() > CALLS - 8) return;
        int s = random.nextInt(8);
        int sort = random.nextInt(4);
        same("row", x.row(s, sort, text.length()), y.row(s, sort, text.length()));
        for (int i = 0; i < text.length(); i++) {
            same("set", x.set(s, i, text.charAt(i)), y.set(s, i, text.charAt(i)));
        }
        same("street \"" + text + "\"", x.street(s), y.street(s));
        same("fault \"" + text + "\"", x.fault(), y.fault());
        int kind = random.nextInt(8) - 1;
        int a = random.nextInt(2);
        same("laying", x.laying(s, kind, a), y.laying(s, kind, a));
    }

    private void callShelf(int which) {
        int s = near(8);
        int t = near(8);
        int i = near(12);
        int j = near(12);
        int n = near(12);
        long v = random.nextLong();
        int sort = near(4);
        if (which < 71) same("row", x.row(s, sort, n), y.row(s, sort, n));
        else if (which < 75) same("set", x.set(s, i, v), y.set(s, i, v));
        else if (which < 77) copy(s, t);
        else if (which < 80) same("element", x.element(s, i), y.element(s, i));
        else if (which < 83) same("laying " + s + " " + n, x.laying(s, n - 2, i), y.laying(s, n - 2, i));
        else if (which < 84) same("holds", x.holds(s), y.holds(s));
        else if (which < 85 && calls < CALLS - 260) judgeWell(s, t);
        else same("says " + s + " " + j, x.says(s, j - 1), y.says(s, j - 1));
    }

    private void copy(int s, int t) {
        int sort = near(4);
        int size = near(10);
        if (random.nextInt(4) != 0) {
            same("row", x.row(s, sort, size), y.row(s, sort, size));
            if (random.nextBoolean()) same("row", x.row(t, sort, size), y.row(t, sort, size));
            for (int e = 0; e < 4; e++) same("set", x.set(s, few(8), 99 + e), y.set(s, last, 99 + e));
        }
        int u = random.nextInt(3) == 0 ? t : s;
        int i = near(4);
        int j = near(4);
        int n = near(8);
        same("copy " + s + " " + u + " " + i + " " + j + " " + n, x.copy(s, u, i, j, n), y.copy(s, u, i, j, n));
        for (int e = 0; e < 10; e++) same("element", x.element(u, e), y.element(u, e));
    }

    /** Judges a ROW that has the LIGHT of almost all POINTS. */
    private void judgeWell(int s, int t) {
        int m = random.nextInt(12);
        calls += 240;
        same("row", x.row(t, 2, 120), y.row(t, 2, 120));
        int wrong = random.nextInt(140);
        for (int p = 0; p < 120; p++) {
            int light = y.light(s, p, m, 0) + (p == wrong ? 1 : 0);
            x.light(s, p, m, 0);
            x.set(t, p, light);
            y.set(t, p, light);
        }
        same("judge " + s + " " + t, x.judge(s, t, m), y.judge(s, t, m));
    }

    private void callRest(int which) {
        int s = near(8);
        int act = near(3);
        int v = random.nextBoolean() ? random.nextInt() : random.nextInt(100);
        if (which < 92) {
            same("act " + s + " " + act + " " + v, x.act(s, act, v), y.act(s, act, v));
            for (int i = -1; i < 10; i++) same("trace " + i, x.trace(i), y.trace(i));
        } else if (which < 93) {
            same("image", x.image(), y.image());
        } else if (which < 94) {
            same("restore", x.restore(), y.restore());
        } else if (which < 95) {
            int t = near(8);
            int m = near(12);
            same("judge " + s + " " + t + " " + m, x.judge(s, t, m), y.judge(s, t, m));
        } else {
            for (int what = -1; what < 19; what++) same("status " + what, x.status(what), y.status(what));
        }
    }
}
