/** Makes streets from texts, for all tests. */
final class Streets {
    /** The SHELF that a text is put into; it holds NOTHING afterwards. */
    private static final int DESK = 7;

    private Streets() {
    }

    /** Puts a text's letters into a SHELF as a ROW. */
    static void letters(LightAlong x, int shelf, int sort, String text) {
        x.row(shelf, sort, text.length());
        for (int i = 0; i < text.length(); i++) x.set(shelf, i, text.charAt(i));
    }

    /** Adds a text that must be a street. */
    static void add(LightAlong x, String text) {
        letters(x, DESK, 0, text);
        int got = x.street(DESK);
        if (got < 1) throw new IllegalStateException("\"" + text + "\" isn't a street: " + got + ", " + x.fault());
        x.laying(DESK, -1, 0);
    }

    static LightAlong along(String text) {
        LightAlong x = new LightAlong();
        add(x, text);
        return x;
    }
}
