import java.util.List;
import java.util.regex.Pattern;

/** What 'THE STREET' bounds, a test for each sentence: the last that is allowed, the first beyond, empty and full. */
public final class StreetEdgesTest {
    private static final Due due = new Due();
    private static final int MAX = Integer.MAX_VALUE;
    private static final int MIN = Integer.MIN_VALUE;

    /** What a call or a text adds of one sort of things: the text's word, and the numbers of the first and last one. */
    private record Things(String word, int[] low, int[] high, int most, int status, int first, Adds adds) {
        int add(LightAlong x, int... numbers) {
            return adds.to(x, numbers);
        }

        String text(int... numbers) {
            StringBuilder text = new StringBuilder(word);
            for (int n : numbers) text.append(' ').append(n);
            return text.toString();
        }
    }

    private interface Adds {
        int to(LightAlong x, int[] n);
    }

    private static final List<Things> ALL = List.of(
        new Things("sort", new int[] {1, 1, 0, 1}, new int[] {12, 99, 99, 99}, 6, 0, 0,
            (x, n) -> x.sort(n[0], n[1], n[2], n[3])),
        new Things("place", new int[] {0, 0}, new int[] {119, 99}, 9, 1, 0, (x, n) -> x.place(n[0], n[1])),
        new Things("tree", new int[] {0}, new int[] {119}, 12, 4, 1, (x, n) -> x.stand(0, n[0])),
        new Things("wall", new int[] {0}, new int[] {119}, 12, 5, 1, (x, n) -> x.stand(1, n[0])),
        new Things("window", new int[] {0, 0}, new int[] {119, 999}, 12, 6, 1, (x, n) -> x.window(n[0], n[1])),
        new Things("shop", new int[] {0, 1, 0}, new int[] {119, 999, 11}, 8, 7, 0,
            (x, n) -> x.shop(n[0], n[1], n[2])),
        new Things("pool", new int[] {0}, new int[] {119}, 6, 8, 1, (x, n) -> x.stand(2, n[0])));

    private StreetEdgesTest() {
    }

    public static void main(String[] args) {
        nothingAtFirst();
        measures();
        measuresByText();
        numbersByCall();
        numbersByText();
        sidesOfPoints();
        numbersFromNoughtOn();
        fullByCall();
        fullByText();
        fullOneByOne();
        roomWithinOneText();
        roomOfOthers();
        roomIsAskedWhenLettersStandWhole();
        freeAtFirst();
        burnsOrIsOut();
        items();
        oneBlank();
        digits();
        everyPrefix();
        everyLetter();
        lettersOfOtherWords();
        otherSigns();
        asInts();
        fullRow();
        allOrNothing();
        addedToWhatThereIs();
        latestFault();
        due.end();
    }

    /** street() of a text on a new object: the answer and the FAULT. */
    private static LightAlong text(String text, int answer, int fault) {
        LightAlong x = new LightAlong();
        read(x, text, answer, fault);
        return x;
    }

    private static void read(LightAlong x, String text, int answer, int fault) {
        Streets.letters(x, 0, 0, text);
        due.is("street \"" + text + "\"", x.street(0), answer);
        due.is("fault of \"" + text + "\"", x.fault(), fault);
    }

    private static void fault(String text, int fault) {
        LightAlong x = text(text, -6, fault);
        for (int what = 0; what < 9; what++) due.is("status " + what + " by \"" + text + "\"", x.status(what), 0);
    }

    private static int[] with(int[] numbers, int k, int v) {
        int[] with = numbers.clone();
        with[k] = v;
        return with;
    }

    // ---- numbers

    private static void nothingAtFirst() {
        due.about("1 No SORTS, no PLACES, nothing stands there");
        LightAlong x = new LightAlong();
        for (int what = 0; what <= 9; what++) due.is("status " + what, x.status(what), 0);
        for (int what = 11; what <= 17; what++) due.is("status " + what, x.status(what), 0);
        due.is("no SORT 0", x.sortOf(0, 0), -5);
        due.is("no PLACE 0", x.placeOf(0, 0), -5);
        due.is("no IMAGE", x.restore(), -6);
        due.is("no FAULT", x.fault(), -1);
    }

    private static void measures() {
        measure("LEAST (0 to 999; 20 at first)", 0, 0, 999, 20);
        measure("EVEN (1 to 99; 8 at first)", 1, 1, 99, 8);
        measure("WIDE (1 to 12; 6 at first)", 2, 1, 12, 6);
        measure("LONG (1 to 60; 40 at first)", 3, 1, 60, 40);
    }

    private static void measure(String about, int what, int low, int high, int first) {
        due.about(about);
        LightAlong x = new LightAlong();
        due.is("below", x.ask(what, low - 1), -6);
        due.is("above", x.ask(what, high + 1), -6);
        due.is("at first", x.ask(what, high), first);
        due.is("highest", x.ask(what, low), high);
        due.is("lowest", x.ask(what, low), low);
        due.is("below", x.ask(what, low - 1), -6);
        due.is("above", x.ask(what, high + 1), -6);
        due.is("far below", x.ask(what, MIN), -6);
        due.is("far above", x.ask(what, MAX), -6);
        due.is("stays", x.ask(what, low), low);
    }

    private static void measuresByText() {
        due.about("least N; even N; wide N; long N");
        String[] words = {"least", "even", "wide", "long"};
        int[] low = {0, 1, 1, 1};
        int[] high = {999, 99, 12, 60};
        for (int what = 0; what < 4; what++) {
            String word = words[what] + " ";
            due.is(word + "lowest", text(word + low[what], 1, -1).ask(what, 9), low[what]);
            due.is(word + "highest", text(word + high[what], 1, -1).ask(what, 9), high[what]);
            if (low[what] > 0) fault(word + (low[what] - 1), word.length());
            // Of 1000 the first three digits are a NUMBER that may be.
            fault(word + (high[what] + 1), word.length() + (what == 0 ? 3 : 0));
            int[] first = {20, 8, 6, 40};
            due.is(word + "stays", text(word + "x", -6, word.length()).ask(what, 9), first[what]);
            LightAlong x = text(word + "7;" + word + "9", 2, -1);
            due.is(word + "becomes the last", x.ask(what, 9), 9);
        }
    }

    private static void numbersByCall() {
        for (Things t : ALL) {
            due.about("numbers of a " + t.word() + " by a call");
            due.is("all lowest", t.add(new LightAlong(), t.low()), t.first());
            due.is("all highest", t.add(new LightAlong(), t.high()), t.first());
            for (int k = 0; k < t.low().length; k++) {
                boolean isPoint = k == 0 && t != ALL.get(0);
                int refused = isPoint ? -1 : -6;
                due.is("lowest " + k, t.add(new LightAlong(), with(t.high(), k, t.low()[k])), t.first());
                due.is("highest " + k, t.add(new LightAlong(), with(t.low(), k, t.high()[k])), t.first());
                for (int v : new int[] {t.low()[k] - 1, t.high()[k] + 1, MIN, MAX}) {
                    LightAlong x = new LightAlong();
                    due.is(v + " as " + k, t.add(x, with(t.low(), k, v)), refused);
                    due.is("none of it", x.status(t.status()), 0);
                }
            }
        }
    }

    private static void numbersByText() {
        for (Things t : ALL) {
            due.about("numbers of a " + t.word() + " by a text");
            due.is("all lowest", text(t.text(t.low()), 1, -1).status(t.status()), 1);
            due.is("all highest", text(t.text(t.high()), 1, -1).status(t.status()), 1);
            int at = t.word().length() + 1;
            for (int k = 0; k < t.low().length; k++) {
                text(t.text(with(t.high(), k, t.low()[k])), 1, -1);
                text(t.text(with(t.low(), k, t.high()[k])), 1, -1);
                if (t.low()[k] > 0) fault(t.text(with(t.low(), k, t.low()[k] - 1)), at);
                int above = t.high()[k] + 1;
                fault(t.text(with(t.low(), k, above)), above > 999 ? at + 3 : at);
                at += 1 + Integer.toString(t.low()[k]).length();
            }
        }
    }

    private static void sidesOfPoints() {
        due.about("YARDS 0 to 59 on two SIDES: POINT y of SIDE d is told as 2 times y and d");
        LightAlong x = new LightAlong();
        x.ask(2, 1);
        x.sort(1, 1, 0, 1);
        int[] points = {0, 1, 118, 119};
        for (int p = 0; p < 4; p++) {
            x.place(points[p], 0);
            x.lamp(p, 0);
        }
        x.laying(0, 1, 0);
        x.laying(1, 1, 1);
        x.laying(2, 6, 8);
        due.is("SIDE 0", x.says(0, 0), 2);
        due.is("SIDE 1", x.says(1, 0), 2);
        due.is("YARD 59, its own SIDE", x.light(2, 119, 0, 0), 1000);
        due.is("YARD 59, the other SIDE", x.light(2, 118, 0, 0), 500);
        due.is("YARD 58, its own SIDE", x.light(2, 117, 0, 0), 500);
        due.is("YARD 58, the other SIDE", x.light(2, 116, 0, 0), 333);
        x.laying(2, 6, 1);
        due.is("YARD 0, its own SIDE", x.light(2, 0, 0, 0), 1000);
        due.is("YARD 0, the other SIDE", x.light(2, 1, 0, 0), 500);
        due.is("YARD 1, its own SIDE", x.light(2, 2, 0, 0), 500);
    }

    // ---- how many

    private static void numbersFromNoughtOn() {
        due.about("SORTS, PLACES and SHOPS have numbers, from 0 on; of others it is told how many");
        for (Things t : ALL) {
            LightAlong x = new LightAlong();
            for (int i = 0; i < 3; i++) due.is(t.word() + " " + i, t.add(x, t.low()), t.first() + i);
        }
        LightAlong x = new LightAlong();
        for (int i = 0; i < 6; i++) x.sort(1 + i, 2 + i, 3 + i, 4 + i);
        for (int i = 0; i < 9; i++) x.place(10 + i, 20 + i);
        for (int i = 0; i < 6; i++) {
            for (int what = 0; what < 4; what++) due.is("SORT " + i, x.sortOf(i, what), 1 + i + what);
        }
        for (int i = 0; i < 9; i++) {
            for (int what = 0; what < 2; what++) due.is("PLACE " + i, x.placeOf(i, what), 10 + i + 10 * what);
        }
        due.is("SORT 6", x.sortOf(6, 0), -5);
        due.is("PLACE 9", x.placeOf(9, 0), -5);
    }

    private static void fullByCall() {
        for (Things t : ALL) {
            due.about(t.most() + " of " + t.word() + " at most, by calls");
            LightAlong x = new LightAlong();
            for (int i = 0; i < t.most(); i++) {
                due.is("the next", t.add(x, i % 2 == 0 ? t.low() : t.high()), t.first() + i);
            }
            due.is("one more", t.add(x, t.low()), -7);
            due.is("one more", t.add(x, t.high()), -7);
            due.is("how many", x.status(t.status()), t.most());
            due.is("refused", x.status(17), 2);
            for (int what = 0; what < 9; what++) {
                if (what != t.status()) due.is("none of status " + what, x.status(what), 0);
            }
        }
    }

    private static void fullByText() {
        for (Things t : ALL) {
            due.about(t.most() + " of " + t.word() + " at most, by a text");
            String one = t.text(t.low());
            String all = one + (";" + one).repeat(t.most() - 1);
            // Twelve windows are 131 letters, so two texts are read.
            int half = t.most() / 2;
            LightAlong x = new LightAlong();
            read(x, one + (";" + one).repeat(half - 1), half, -1);
            read(x, one + (";" + one).repeat(t.most() - half - 1), t.most() - half, -1);
            due.is("how many", x.status(t.status()), t.most());
            read(x, one, -6, 0);
            due.is("still", x.status(t.status()), t.most());
            if (all.length() > 110) continue;
            text(all, t.most(), -1);
            if (all.length() + one.length() < 120) fault(all + ";" + one, all.length() + 1);
        }
    }

    private static void fullOneByOne() {
        for (Things t : ALL) {
            due.about("what there is no room for can't stand, its word: " + t.word());
            LightAlong x = new LightAlong();
            for (int i = 1; i < t.most(); i++) t.add(x, t.low());
            read(x, t.text(t.high()), 1, -1);
            due.is("how many", x.status(t.status()), t.most());
            read(x, t.text(t.high()), -6, 0);
            read(x, "least 1;" + t.text(t.high()), -6, 8);
            due.is("still", x.status(t.status()), t.most());
            due.is("refused as a FAULT", x.status(16), 2);
            due.is("not for ROOM", x.status(17), 0);
        }
    }

    private static void roomWithinOneText() {
        for (Things t : ALL) {
            due.about("ITEMS of the same text take room: " + t.word());
            LightAlong x = new LightAlong();
            for (int i = 1; i < t.most(); i++) t.add(x, t.low());
            String one = t.text(t.low());
            read(x, one + ";" + one, -6, one.length() + 1);
            due.is("nothing is added", x.status(t.status()), t.most() - 1);
            read(x, one, 1, -1);
            due.is("one is", x.status(t.status()), t.most());
        }
    }

    private static void roomOfOthers() {
        for (Things t : ALL) {
            due.about("what is full leaves room for the others: " + t.word());
            LightAlong x = new LightAlong();
            for (int i = 0; i < t.most(); i++) t.add(x, t.low());
            for (Things u : ALL) {
                if (u == t) continue;
                read(x, u.text(u.high()), 1, -1);
                due.is(u.word(), u.add(x, u.low()), u.first() + 1);
            }
            read(x, "least 1;even 1;wide 1;long 1", 4, -1);
        }
    }

    private static void roomIsAskedWhenLettersStandWhole() {
        for (Things t : ALL) {
            due.about("Whether there is room for a word is asked when its letters stand whole: " + t.word());
            String word = t.word();
            LightAlong x = new LightAlong();
            for (int i = 0; i < t.most(); i++) t.add(x, t.low());
            for (int n = 0; n < word.length(); n++) {
                read(x, word.substring(0, n), -6, n);
                read(x, word.substring(0, n) + "X", -6, n);
            }
            read(x, word, -6, 0);
            read(x, word + "X", -6, 0);
            read(x, word + " ", -6, 0);
            read(x, word + " 999", -6, 0);
            read(x, "long 1;" + word, -6, 7);
            read(x, "long 1;" + word.substring(0, word.length() - 1), -6, 6 + word.length());
        }
    }

    private static void freeAtFirst() {
        due.about("PLACES: each free or with a lamp of a SORT; free at first");
        LightAlong x = text("sort 1 1 1 1;place 0 0", 2, -1);
        x.place(1, 1);
        for (int p = 0; p < 2; p++) {
            due.is("free", x.placeOf(p, 2), -1);
            due.is("not OUT", x.placeOf(p, 3), 0);
            due.is("can't be OUT", x.out(p, true), -6);
            due.is("what it had", x.lamp(p, 0), -1);
        }
        due.is("lamps", x.status(2), 2);
    }

    private static void burnsOrIsOut() {
        due.about("a lamp that burns, or is OUT");
        LightAlong x = text("sort 1 1 1 1;sort 2 2 2 2;place 0 0", 3, -1);
        x.laying(0, 0, 0);
        due.is("a lamp", x.lamp(0, 1), -1);
        due.is("burns", x.says(0, 0), 1);
        due.is("burns already", x.out(0, false), 0);
        due.is("goes OUT", x.out(0, true), 1);
        due.is("is OUT", x.says(0, 0), 0);
        due.is("is OUT already", x.out(0, true), 0);
        due.is("of status 3", x.status(3), 1);
        due.is("is a lamp still", x.status(2), 1);
        due.is("burns again", x.out(0, false), 1);
        x.out(0, true);
        due.is("the same SORT anew", x.lamp(0, 1), 1);
        due.is("burns then", x.placeOf(0, 3), 0);
        x.out(0, true);
        due.is("freed", x.lamp(0, -1), 1);
        due.is("nothing is OUT", x.status(3), 0);
        due.is("nor of the PLACE", x.placeOf(0, 3), 0);
        due.is("the lowest SORT", x.lamp(0, 0), -1);
        due.is("is freed", x.lamp(0, -1), 0);
        due.is("is free", x.lamp(0, -1), -1);
    }

    // ---- texts

    private static void items() {
        due.about("ITEM, then any number of times ; and ITEM");
        fault("", 0);
        text("long 9", 1, -1);
        text("long 9;long 8", 2, -1);
        for (int n = 1; n <= 17; n++) text("even 9" + ";even 9".repeat(n - 1), n, -1);
        fault(";", 0);
        fault(";long 9", 0);
        fault("long 9;", 7);
        fault("long 9;;long 9", 7);
        fault("long 9long 9", 6);
        fault("long 9,long 9", 6);
        fault("long 9 long 9", 6);
    }

    private static void oneBlank() {
        due.about("One blank between words and NUMBERS");
        text("place 1 2", 1, -1);
        fault("place1 2", 5);
        fault("place  1 2", 6);
        fault("place 1  2", 8);
        fault("place 1;2", 7);
        fault("place 1", 7);
        fault(" place 1 2", 0);
        fault("place 1 2 ", 9);
        fault("place 1 2 ;tree 1", 9);
        fault("place 1 2; tree 1", 10);
        fault("place\t1 2", 5);
        fault("pla ce 1 2", 3);
        fault("place 1 2 3", 9);
        fault("tree 1 2", 6);
        fault("shop 1 2 3 4", 10);
        fault("sort 1 2 3 4 5", 12);
        fault("sort 1 2 3;tree 1", 10);
    }

    private static void digits() {
        due.about("NUMBERS (1 to 3 digits)");
        fault("tree ", 5);
        fault("tree ;", 5);
        text("tree 7", 1, -1);
        text("tree 17", 1, -1);
        text("tree 117", 1, -1);
        fault("tree 1170", 5 + 3);
        fault("tree 0007", 5 + 3);
        fault("tree +7", 5);
        fault("tree -7", 5);
        fault("tree 0x7", 6);
        due.is("000 is 0", text("place 000 007", 1, -1).placeOf(0, 0), 0);
        due.is("007 is 7", text("place 000 007", 1, -1).placeOf(0, 1), 7);
        due.is("010 is 10", text("place 010 010", 1, -1).placeOf(0, 0), 10);
        text("shop 000 001 000", 1, -1);
        fault("shop 000 000 000", 9);
        due.about("the signs beside digits");
        fault("tree /", 5);
        fault("tree :", 5);
        text("tree 0", 1, -1);
        text("tree 9", 1, -1);
        due.about("a NUMBER that may not be: the place of its first digit");
        fault("tree 120", 5);
        fault("tree 999", 5);
        fault("tree 120;", 5);
        fault("tree 120x", 5);
        fault("wide 013", 5);
        fault("wide 0", 5);
        fault("wide 00;wide 1", 5);
        fault("window 119 999;window 120 999", 22);
        fault("sort 1 100 1 1", 7);
        fault("sort 12 99 99 00", 14);
    }

    private static final String N = " [0-9]{1,3}";
    private static final Pattern STREET = Pattern.compile("((^|;)((least|even|wide|long|tree|wall|pool)" + N
        + "|(place|window)" + N + N + "|shop" + N + N + N + "|sort" + N + N + N + N + "))+");
    /** All ITEMS; their NUMBERS may be however many digits of them stand. */
    private static final String[] LONG_TEXTS = {"least 123;even 12;wide 12;long 45;sort 12 34 56 78;place 119 98",
        "tree 110;wall 11;window 119 765;shop 11 234 11;pool 118"};

    private static void everyPrefix() {
        due.about("The FAULT: the number of elements, if it ends too early");
        for (String whole : LONG_TEXTS) {
            for (int n = 0; n <= whole.length(); n++) {
                String text = whole.substring(0, n);
                if (STREET.matcher(text).matches()) text(text, text.split(";").length, -1);
                else fault(text, n);
            }
        }
    }

    private static void everyLetter() {
        due.about("The FAULT: the first place at which an element can't stand as such texts go on");
        for (String whole : LONG_TEXTS) {
            for (int n = 0; n < whole.length(); n++) {
                fault(whole.substring(0, n) + "~" + whole.substring(n + 1), n);
                fault(whole.substring(0, n) + "~", n);
            }
            fault(whole + "~", whole.length());
            fault(whole + " ", whole.length());
        }
        fault("~~~", 0);
        fault("tree 1;tree ~;tree ~", 12);
    }

    private static void lettersOfOtherWords() {
        due.about("as such texts go on: words that begin alike");
        String[] texts = {"lo", "le", "lone", "leat", "w", "wa", "wi", "win", "wid", "wide", "wine", "widow", "p", "po",
            "pl", "polace", "plool", "s", "so", "sh", "shot", "sorp", "t", "treee", "e", "evne", "wald", "poot"};
        int[] faults = {2, 2, 3, 3, 1, 2, 2, 3, 3, 4, 3, 3, 1, 2,
            2, 2, 2, 1, 2, 2, 3, 3, 1, 4, 1, 2, 3, 3};
        for (int i = 0; i < texts.length; i++) {
            fault(texts[i], faults[i]);
            fault("pool 1;" + texts[i], 7 + faults[i]);
        }
        fault("trees 1", 4);
        fault("TREE 1", 0);
        fault("treE 1", 3);
    }

    private static void otherSigns() {
        due.about("elements that are no letters");
        for (int sort = 1; sort < 4; sort++) {
            LightAlong x = new LightAlong();
            Streets.letters(x, 0, sort, "tree 1");
            due.is("street", x.street(0), 1);
            for (int i = 0; i < 6; i++) {
                long was = x.element(0, i);
                for (long v : new long[] {0, -1, -was, was + 128, was + 256, was - 256, 32767}) {
                    x.set(0, i, v);
                    due.is(v + " at " + i, x.street(0), -6);
                    due.is("fault of " + v, x.fault(), i);
                }
                x.set(0, i, was);
            }
            due.is("street", x.street(0), 1);
        }
    }

    private static void asInts() {
        due.about("As ints: of longs the lowest 32 bits");
        LightAlong x = new LightAlong();
        Streets.letters(x, 0, 3, "tree 1");
        for (int i = 0; i < 6; i++) x.set(0, i, x.element(0, i) + ((i % 2 == 0 ? 1L : -1L) << 32));
        due.is("street", x.street(0), 1);
        x.set(0, 5, '1' + (1L << 31));
        due.is("street", x.street(0), -6);
        due.is("fault", x.fault(), 5);
        due.about("what is put in keeps its lowest bits: then it is a letter");
        for (int sort = 0; sort < 3; sort++) {
            Streets.letters(x, 0, sort, "tree 1");
            for (int i = 0; i < 6; i++) x.set(0, i, x.element(0, i) + (1L << (8 << sort)));
            due.is("street of sort " + sort, x.street(0), 1);
        }
        due.is("TREES", x.status(4), 4);
    }

    private static void fullRow() {
        due.about("A ROW has 0 to 120 elements, all of them letters of the text");
        String most = "even 9;".repeat(16);
        text(most + "even 9", 17, -1);
        text(most + "least 99", 17, -1);
        fault(most + "even 9 ;", 118);
        fault(most + "even 9;e", 120);
        fault(most + "even 99x", 119);
        fault(most + "window 9", 120);
        fault(most + "even 9;;", 119);
        fault("x" + most, 0);
        LightAlong x = new LightAlong();
        x.row(0, 0, 0);
        due.is("no letters", x.street(0), -6);
        due.is("no letters", x.fault(), 0);
        x.row(0, 0, 120);
        due.is("noughts", x.street(0), -6);
        due.is("noughts", x.fault(), 0);
    }

    private static void allOrNothing() {
        due.about("All is added to what there is, or nothing");
        String[] faults = {"x", "tre", "tree 120", "tree", "even 0", ""};
        for (Things t : ALL) {
            for (String f : faults) fault(t.text(t.high()) + ";" + t.text(t.low()) + ";" + f,
                t.text(t.high()).length() + t.text(t.low()).length() + 2
                    + (f.equals("tre") ? 3 : f.equals("tree") ? 4 : f.length() > 4 ? 5 : 0));
        }
        int[] first = {20, 8, 6, 40};
        for (String f : faults) {
            LightAlong x = new LightAlong();
            Streets.letters(x, 0, 0, "least 1;even 2;wide 3;long 4;" + f);
            due.is("street", x.street(0), -6);
            for (int what = 0; what < 4; what++) due.is("ask " + what, x.ask(what, 9), first[what]);
        }
    }

    private static void addedToWhatThereIs() {
        due.about("added to what there is");
        LightAlong x = text("sort 2 40 7 6;place 0 3;tree 9;shop 4 5 6", 4, -1);
        x.lamp(0, 0);
        x.out(0, true);
        read(x, "sort 3 41 8 7;place 1 4;tree 9;shop 6 7 8;least 7", 5, -1);
        due.is("SORT 0", x.sortOf(0, 1), 40);
        due.is("SORT 1", x.sortOf(1, 1), 41);
        due.is("PLACE 0", x.placeOf(0, 1), 3);
        due.is("PLACE 1", x.placeOf(1, 1), 4);
        due.is("its lamp", x.placeOf(0, 2), 0);
        due.is("is OUT", x.placeOf(0, 3), 1);
        due.is("TREES", x.status(4), 2);
        due.is("SHOPS", x.status(7), 2);
        due.is("a call's next SORT", x.sort(1, 1, 1, 1), 2);
        due.is("a call's next PLACE", x.place(1, 1), 2);
        due.is("a call's next SHOP", x.shop(1, 1, 1), 2);
        due.is("LEAST", x.ask(0, 9), 7);
        due.is("EVEN stays", x.ask(1, 9), 8);
    }

    private static void latestFault() {
        due.about("16 NONE: none yet");
        LightAlong x = new LightAlong();
        due.is("at first", x.fault(), -1);
        due.is("no such SHELF", x.street(8), -1);
        due.is("none yet", x.fault(), -1);
        due.is("NOTHING", x.street(0), -3);
        x.laying(1, 0, 0);
        due.is("a LAYING", x.street(1), -2);
        due.is("none yet", x.fault(), -1);
        due.about("16 The FAULT of the latest street() that came to a ROW");
        read(x, "tree x", -6, 5);
        due.is("no such SHELF", x.street(-1), -1);
        due.is("NOTHING", x.street(2), -3);
        due.is("a LAYING", x.street(1), -2);
        due.is("stays", x.fault(), 5);
        due.is("is told again", x.fault(), 5);
        read(x, "trex", -6, 3);
        x.row(0, 0, 0);
        x.laying(0, -1, 0);
        due.is("stays without the ROW", x.fault(), 3);
        due.about("16 NONE: there was none");
        read(x, "tree 1", 1, -1);
        read(x, "", -6, 0);
        due.is("place 0 is a FAULT", x.fault(), 0);
    }
}
