import java.io.IOException;
import java.nio.file.Files;
import java.nio.file.Path;
import java.util.Set;
import java.util.TreeSet;

/** Prints every answer that is not the one that is due, and ends a test by it. */
final class Due {
    private static final Path DOCUMENT = Path.of("../shared/DOC.md");
    private static final String DOCUMENT_TEXT = text();

    private final Set<Integer> saidWhole = new TreeSet<>();
    private final String test;
    private int wrong = 0;
    private int asked = 0;
    private String sentence = "";

    Due(String test) {
        this.test = test;
    }

    /** The document's own words, by the promise that has them (0: the Terms), for what comes next. */
    void says(int promise, String words) {
        sentence = " [" + (promise == 0 ? "Terms" : "Promise " + promise) + ": " + words + "]";
        String section = section(promise);
        holds("the document has these words", section.isEmpty() || section.contains(words));
        if (section.isEmpty() || section.endsWith("`: " + words)) {
            saidWhole.add(promise);
        }
    }

    /** Whether each promise, 1 to the last, was told with all of its words. */
    void saidAll(int last) {
        sentence = "";
        for (int promise = 1; promise <= last; promise++) {
            holds("Promise " + promise + " was told whole", saidWhole.contains(promise));
        }
        holds("Promise " + (last + 1) + " is none", section(last + 1).isEmpty());
    }

    /** Empty where the document is not there: then the tests do without it. */
    private static String text() {
        try {
            return Files.exists(DOCUMENT) ? Files.readString(DOCUMENT) : "";
        } catch (IOException e) {
            return "";
        }
    }

    private static String section(int promise) {
        String head = promise == 0 ? "## Terms" : "## Promise " + promise + ":";
        int start = DOCUMENT_TEXT.indexOf(head);
        if (start < 0) {
            return "";
        }
        int end = DOCUMENT_TEXT.indexOf("\n## ", start);
        return DOCUMENT_TEXT.substring(start, end < 0 ? DOCUMENT_TEXT.length() : end).trim();
    }

    void is(String call, long got, long want) {
        asked++;
        if (got != want) {
            wrong++;
            System.out.println(test + ": " + call + " answered " + got + ", due is " + want + sentence);
        }
    }

    void holds(String what, boolean so) {
        asked++;
        if (!so) {
            wrong++;
            System.out.println(test + ": not so: " + what + sentence);
        }
    }

    int asked() {
        return asked;
    }

    int wrong() {
        return wrong;
    }

    void end() {
        System.out.println("   " + test + ": " + asked + " answers, " + wrong + " not as due");
        if (wrong != 0) {
            System.exit(1);
        }
    }

    /** Feeds a text and reads it: what town() answers. */
    static int read(LeftAlone x, String text) {
        for (int i = 0; i < text.length(); i++) {
            x.feed(text.charAt(i));
        }
        return x.town();
    }

    /** A new object with this TOWN. */
    static LeftAlone of(String text) {
        LeftAlone x = new LeftAlone();
        if (read(x, text) < 0) {
            throw new IllegalStateException("no town: " + text);
        }
        return x;
    }

    /** Houses 0 .. 4 of this TOWN tell FEELS 0 .. 4 behind a DAY: by it ITEMS can be looked at. */
    static final String LOOKING = "d1,0;m0,9;m2,0;m3,0;m4,0;m5,0;p0,1,0;";

    /** What ITEM i of a ROW is, if it is 0 to 4 (in the TOWN LOOKING, on DAY 0); else -1. */
    static int item(LeftAlone x, int row, int i) {
        for (int man = 0; man < 5; man++) {
            int fits = x.absent(man, row, i, 1);
            if (fits >= 0 && (fits & 64) != 0) {
                return man;
            }
        }
        return -1;
    }

    /** Row 7 as ints with these ITEMS. */
    static void tell(LeftAlone x, int... items) {
        x.row(7, 2, items.length);
        for (int i = 0; i < items.length; i++) {
            x.set(7, i, items[i]);
        }
    }
}
