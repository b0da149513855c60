/** Prints every answer that is not the one that is due, and ends a test by it. */
final class Due {
    private final String test;
    private int wrong = 0;
    private int asked = 0;

    Due(String test) {
        this.test = test;
    }

    void is(String call, long got, long want) {
        asked++;
        if (got != want) {
            wrong++;
            System.out.println(test + ": " + call + " answered " + got + ", due is " + want);
        }
    }

    void holds(String what, boolean so) {
        asked++;
        if (!so) {
            wrong++;
            System.out.println(test + ": not so: " + what);
        }
    }

    int wrong() {
        return wrong;
    }

    void end() {
        System.out.println("   " + test + ": " + asked + " answers, " + wrong + " not as due");
        if (wrong != 0) {
            System.exit(1);
        }
    }

    /** Feeds a text and reads it: what town() answers. */
    static int read(LeftAlone x, String text) {
        for (int i = 0; i < text.length(); i++) {
            x.feed(text.charAt(i));
        }
        return x.town();
    }

    /** A new object with this TOWN. */
    static LeftAlone of(String text) {
        LeftAlone x = new LeftAlone();
        if (read(x, text) < 0) {
            throw new IllegalStateException("no town: " + text);
        }
        return x;
    }

    /** Row 7 as ints with these ITEMS. */
    static void tell(LeftAlone x, int... items) {
        x.row(7, 2, items.length);
        for (int i = 0; i < items.length; i++) {
            x.set(7, i, items[i]);
        }
    }
}
