/** Promises 36 to 41: each sentence that names an edge, on both sides of it. */
public final class EdgesOfAsksTest {
    private static final int NONE = LeftAlone.NONE, BAD = LeftAlone.BAD, KIND = -1000013;
    private static final int LEAST = Integer.MIN_VALUE, MOST = Integer.MAX_VALUE;
    private static final String FIVE = "d1,3;m0,0;m0,0;p0,3,0;f1,4,0;s0,7,0;i1,6,0;w1,9,0;";
    private static final Due due = new Due("EdgesOfAsksTest");

    public static void main(String[] args) {
        kindAsTold();
        asOneOfAKind();
        asAhead();
        bodies();
        nearestKind();
        makesToday();
        askNumbers();
        emptyAhead();
        traceNumbers();
        countWhat();
        countsFollow();
        statusOfRows();
        statusStays();
        due.end();
    }

    private static void kindAsTold() {
        due.says(36, "The KIND of a LEAVER, as told (1 to 5). BAD.");
        due.is("no TOWN", new LeftAlone().kind(0), BAD);
        LeftAlone x = Due.of(FIVE);
        for (int one : new int[] {LEAST, -1, 5, MOST}) {
            due.is("kind(" + one + ")", x.kind(one), BAD);
        }
        for (int one = 0; one < 5; one++) {
            due.is("kind(" + one + ")", x.kind(one), one + 1);
        }
        LeftAlone six = Due.of("d1,0;m0,0;p0,1,0;p0,1,0;p0,1,0;p0,1,0;p0,1,0;w0,1,0;");
        due.is("kind(5)", six.kind(5), 5);
        due.is("kind(6)", six.kind(6), BAD);
    }

    private static void asOneOfAKind() {
        due.says(37, "A LEAVER is taken as one of a KIND (0 .. 5): its number. BAD; KIND: it is no such one.");
        due.is("no TOWN", new LeftAlone().as(0, 0), BAD);
        LeftAlone x = Due.of(FIVE);
        // By KIND, 1 to 5: what each is, too.
        boolean[][] is = {
            {true, true, false, false, false, false},
            {true, true, true, false, false, false},
            {true, true, false, true, false, false},
            {true, false, false, false, true, false},
            {true, false, false, false, true, true}};
        for (int one = 0; one < 5; one++) {
            for (int kind = 0; kind <= 5; kind++) {
                due.is("as(" + one + ", " + kind + ")", x.as(one, kind), is[one][kind] ? one : KIND);
                due.is("status()", x.status(), is[one][kind] ? 0 : 3);
            }
            for (int kind : new int[] {LEAST, -1, 6, MOST}) {
                due.is("as(" + one + ", " + kind + ")", x.as(one, kind), BAD);
            }
        }
        for (int one : new int[] {LEAST, -1, 5, MOST}) {
            for (int kind = 0; kind <= 5; kind++) {
                due.is("as(" + one + ", " + kind + ")", x.as(one, kind), BAD);
            }
        }
        due.is("kind(0) stays", x.kind(0), 1);
    }

    private static void asAhead() {
        due.says(41, "that was not BAD, STATE, FULL");
        LeftAlone x = Due.of(FIVE);
        x.as(0, 2);
        due.is("KIND", x.status(), 3);
        x.as(5, 0);
        x.as(0, 6);
        due.is("BAD: KIND yet", x.status(), 3);
        x.as(0, 1);
        due.is("none", x.status(), 0);
        x.as(5, 2);
        due.is("BAD: none yet", x.status(), 0);
    }

    private static void asked(LeftAlone x, int one, int what, int want, int... trace) {
        String call = "ask(" + one + ", " + what + ")";
        due.is(call, x.ask(one, what), want);
        for (int i = 0; i < trace.length; i++) {
            due.is(call + ": trace(" + i + ")", x.trace(i), trace[i]);
        }
        for (int i = trace.length; i <= 17; i++) {
            due.is(call + ": trace(" + i + ")", x.trace(i), NONE);
        }
    }

    private static void bodies() {
        due.says(0, "each of which leaves its number in THE TRACE as it begins (the first 16)");
        LeftAlone x = Due.of(FIVE);
        asked(x, 0, 0, 3 + (0 + 3), 11, 10, 21, 20);
        asked(x, 0, 1, 0 + 3, 21, 20);
        asked(x, 1, 0, 0 - (4 + 2 * (1 + 4)), 12, 11, 10, 24, 21, 20);
        asked(x, 1, 1, 2 * (1 + 4), 24, 21, 20);
        asked(x, 3, 0, 6 - 100, 13, 10);
        asked(x, 3, 1, 3 - (6 - 100), 23, 20, 13, 10);
        asked(x, 4, 0, 2 * (9 - 100), 14, 13, 10);
    }

    private static void nearestKind() {
        due.says(0, "else that of the nearest KIND that it is, too, else the one that is lent");
        LeftAlone x = Due.of(FIVE);
        // SIZE of a SUBSTITUTE is that of a POINTED one, with a MARK of his own.
        asked(x, 2, 0, 7 + (2 + 3 - 1000), 11, 10, 22, 21, 20);
        asked(x, 2, 1, 2 + 3 - 1000, 22, 21, 20);
        // MARK of a WET one is that of an IDLE one, with a SIZE of his own.
        asked(x, 4, 1, 4 - 2 * (9 - 100), 23, 20, 14, 13, 10);
    }

    private static void makesToday() {
        due.says(0, "21 of POINTED ones: what 20 gives, and what he MAKES felt today.");
        LeftAlone x = Due.of(FIVE);
        x.days(12);
        asked(x, 1, 1, 2 * (1 + 4 + 9), 24, 21, 20);
        asked(x, 1, 0, 0 - (4 + 2 * (1 + 13)), 12, 11, 10, 24, 21, 20);
        x.weight(2, 9);
        asked(x, 2, 1, 2 + 4 - 1000, 22, 21, 20);
        x.weight(0, 1);
        asked(x, 0, 1, 0 + 1, 21, 20);
        // What an IDLE one MAKES felt is no part of his asks.
        x.days(1);
        asked(x, 3, 1, 3 - (6 - 100), 23, 20, 13, 10);
    }

    private static void askNumbers() {
        due.says(38, "An ASK (0, 1) of a LEAVER. BAD.");
        due.is("no TOWN", new LeftAlone().ask(0, 0), BAD);
        LeftAlone x = Due.of(FIVE);
        for (int one : new int[] {LEAST, -1, 5, MOST}) {
            due.is("ask(" + one + ", 0)", x.ask(one, 0), BAD);
            due.is("ask(" + one + ", 1)", x.ask(one, 1), BAD);
        }
        for (int what : new int[] {LEAST, -1, 2, MOST}) {
            due.is("ask(0, " + what + ")", x.ask(0, what), BAD);
        }
        due.is("nothing in THE TRACE", x.trace(0), NONE);
        due.is("ask(0, 0)", x.ask(0, 0), 6);
        due.is("ask(4, 1)", x.ask(4, 1), 4 + 182);
        due.is("ask(5, 2)", x.ask(5, 2), BAD);
        due.is("THE TRACE stays", x.trace(0), 23);
        due.is("THE TRACE stays", x.trace(4), 10);
    }

    private static void emptyAhead() {
        due.says(38, "THE TRACE is empty ahead of it.");
        LeftAlone x = Due.of(FIVE);
        due.is("no ask yet", x.trace(0), NONE);
        for (int times = 0; times < 8; times++) {
            asked(x, 1, 0, -14, 12, 11, 10, 24, 21, 20);
        }
        asked(x, 3, 0, -94, 13, 10);
    }

    private static void traceNumbers() {
        due.says(39, "Number i of THE TRACE; NONE.");
        LeftAlone x = new LeftAlone();
        for (int i : new int[] {LEAST, -1, 0, 1, 15, 16, MOST}) {
            due.is("no TOWN, trace(" + i + ")", x.trace(i), NONE);
        }
        Due.read(x, FIVE);
        x.ask(3, 0);
        due.is("trace(-1)", x.trace(-1), NONE);
        due.is("trace(0)", x.trace(0), 13);
        due.is("trace(1)", x.trace(1), 10);
        due.is("trace(2)", x.trace(2), NONE);
        due.is("trace(16)", x.trace(16), NONE);
        due.is("trace, least", x.trace(LEAST), NONE);
        due.is("trace, most", x.trace(MOST), NONE);
    }

    private static void countWhat() {
        due.says(40, "6 ACTS that can be undone, 7 bytes on the tape. BAD.");
        LeftAlone x = new LeftAlone();
        for (int what : new int[] {LEAST, -1, 8, MOST}) {
            due.is("new: count(" + what + ")", x.count(what), BAD);
        }
        for (int what = 0; what <= 7; what++) {
            due.is("new: count(" + what + ")", x.count(what), 0);
        }
        Due.read(x, FIVE);
        due.is("count(-1)", x.count(-1), BAD);
        due.is("count(8)", x.count(8), BAD);
    }

    private static void countsFollow() {
        due.says(40, "How many: 0 ROWS, 1 MEN, 2 LEAVERS, 3 DAY, 4 FEELS of all MEN, 5 who is BARRED (bits)");
        LeftAlone x = Due.of("d1,0;m60,0;m60,0;m60,0;m60,0;m60,0;" + "p0,1,0;".repeat(6));
        for (int row = 0; row < 8; row++) {
            x.row(row, 0, row);
        }
        due.is("ROWS, one without ITEMS", x.count(0), 8);
        due.is("MEN", x.count(1), 5);
        due.is("LEAVERS", x.count(2), 6);
        due.is("FEELS", x.count(4), 300);
        x.days(24);
        x.days(24);
        due.is("DAY", x.count(3), 48);
        due.is("FEELS: 99, and 12 each", x.count(4), 99 + 4 * 12);
        for (int man = 0; man < 5; man++) {
            x.bar(man, 1);
        }
        due.is("BARRED", x.count(5), 31);
        due.is("ACTS", x.count(6), 24);
        due.is("bytes", x.count(7), 0);
        x.feed('d');
        due.is("bytes", x.count(7), 1);
        for (int row = 0; row < 8; row++) {
            x.drop(row);
        }
        due.is("ROWS", x.count(0), 0);
    }

    private static void statusOfRows() {
        due.says(41, "0: it had none, or there was none.");
        LeftAlone x = new LeftAlone();
        due.is("there was none", x.status(), 0);
        x.set(0, 0, 0);
        due.is("set: NULL", x.status(), 1);
        x.row(0, 0, 2);
        due.is("row: none", x.status(), 0);
        x.set(0, 2, 0);
        due.is("set: PLACE", x.status(), 2);
        x.set(0, 1, 0);
        due.is("set: none", x.status(), 0);
        x.row(1, 1, -1);
        due.is("row: SIZE", x.status(), 4);
        x.drop(1);
        due.is("drop: NULL", x.status(), 1);
        x.row(1, 1, 1);
        x.copy(0, 0, 1, 0, 1);
        due.is("copy: STORE", x.status(), 5);
        x.copy(0, 0, 0, 1, 2);
        due.is("copy: PLACE", x.status(), 2);
        x.copy(0, 0, 0, 1, 1);
        due.is("copy: none", x.status(), 0);
        x.copy(0, 0, 2, 0, 1);
        due.is("copy: NULL", x.status(), 1);
        x.drop(1);
        due.is("drop: none", x.status(), 0);
    }

    private static void statusStays() {
        due.says(41, "Of the latest call with a ROW, or as(), that was not BAD, STATE, FULL");
        LeftAlone x = new LeftAlone();
        x.row(0, 0, -1);
        // Calls without a ROW, refused or not, are not looked at.
        Due.read(x, "d0");
        Due.read(x, FIVE);
        x.days(2);
        x.days(0);
        x.bar(0, 1);
        x.bar(0, 1);
        x.send(0, 1);
        x.weight(0, 2);
        x.patience(0, 2);
        x.undo();
        x.ahead(0, 1);
        x.fewest(1, 1, 1, 0);
        x.rain(0, 0, 0, 0);
        x.drawn(3, 3, 0);
        x.image(0);
        x.restore(0);
        x.restore(1);
        x.kind(0);
        x.ask(0, 0);
        x.trace(0);
        x.count(0);
        x.feed(-1);
        due.is("SIZE yet", x.status(), 4);
        x.row(8, 0, 0);
        x.set(8, 0, 0);
        x.copy(8, 0, 0, 0, 0);
        x.drop(8);
        x.who(9, 0, 0, 0, 1);
        x.houses(9, 0, 0, 0, 1);
        x.weights(9, 0, 0, 0, 1);
        x.absent(9, 0, 0, 1);
        x.as(9, 0);
        due.is("BAD ones: SIZE yet", x.status(), 4);
        due.is("status() itself", x.status(), 4);
        x.as(0, 0);
        due.is("as: none", x.status(), 0);
    }
}
