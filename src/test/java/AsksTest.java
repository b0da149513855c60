/** Promises 36 to 39, and 41 for as(). */
public final class AsksTest {
    private static final int KIND = -1000013;
    private static final Due due = new Due("AsksTest");

    public static void main(String[] args) {
        kinds();
        asks();
        traces();
        due.end();
    }

    private static LeftAlone allKinds() {
        return Due.of("d1,0;m0,0;m0,0;p0,3,0;f1,4,0;s0,7,0;i1,6,0;w1,9,0;");
    }

    private static void kinds() {
        LeftAlone x = allKinds();
        // by KIND - 1: the KINDS (bits) that it is
        int[] is = {0b000011, 0b000111, 0b001011, 0b010001, 0b110001};
        for (int one = 0; one < 5; one++) {
            due.is("kind(" + one + ")", x.kind(one), one + 1);
            for (int kind = 0; kind <= 5; kind++) {
                boolean so = (is[one] >> kind & 1) == 1;
                due.is("as(" + one + ", " + kind + ")", x.as(one, kind), so ? one : KIND);
                due.is("status()", x.status(), so ? 0 : 3);
            }
        }
        x.as(0, 5);
        due.is("kind(5)", x.kind(5), LeftAlone.BAD);
        due.is("kind(-1)", x.kind(-1), LeftAlone.BAD);
        due.is("as(5, 0)", x.as(5, 0), LeftAlone.BAD);
        due.is("as(-1, 0)", x.as(-1, 0), LeftAlone.BAD);
        due.is("as(0, -1)", x.as(0, -1), LeftAlone.BAD);
        due.is("as(0, 6)", x.as(0, 6), LeftAlone.BAD);
        due.is("status() stays", x.status(), 3);
    }

    private static void asked(LeftAlone x, int one, int what, int want, int... trace) {
        String call = "ask(" + one + ", " + what + ")";
        due.is(call, x.ask(one, what), want);
        for (int i = 0; i < trace.length; i++) {
            due.is(call + ": trace(" + i + ")", x.trace(i), trace[i]);
        }
        due.is(call + ": trace behind it", x.trace(trace.length), LeftAlone.NONE);
    }

    private static void asks() {
        LeftAlone x = allKinds();
        asked(x, 0, 0, 3 + 0 + 3, 11, 10, 21, 20);
        asked(x, 0, 1, 0 + 3, 21, 20);
        asked(x, 1, 0, -(4 + 2 * (1 + 4)), 12, 11, 10, 24, 21, 20);
        asked(x, 1, 1, 2 * (1 + 4), 24, 21, 20);
        asked(x, 2, 0, 7 + 2 + 3 - 1000, 11, 10, 22, 21, 20);
        asked(x, 2, 1, 2 + 3 - 1000, 22, 21, 20);
        asked(x, 3, 0, 6 - 100, 13, 10);
        asked(x, 3, 1, 3 - (6 - 100), 23, 20, 13, 10);
        asked(x, 4, 0, 2 * (9 - 100), 14, 13, 10);
        asked(x, 4, 1, 4 - 2 * (9 - 100), 23, 20, 14, 13, 10);
        x.days(3);
        x.weight(0, 8);
        asked(x, 1, 1, 2 * (1 + 4 + 3), 24, 21, 20);
        asked(x, 0, 0, 8 + 0 + 8, 11, 10, 21, 20);
    }

    private static void traces() {
        LeftAlone x = allKinds();
        due.is("trace(0), no ask", x.trace(0), LeftAlone.NONE);
        x.ask(4, 1);
        due.is("ask(5, 0)", x.ask(5, 0), LeftAlone.BAD);
        due.is("ask(-1, 0)", x.ask(-1, 0), LeftAlone.BAD);
        due.is("ask(0, 2)", x.ask(0, 2), LeftAlone.BAD);
        due.is("ask(0, -1)", x.ask(0, -1), LeftAlone.BAD);
        due.is("the trace stays", x.trace(4), 10);
        due.is("trace(-1)", x.trace(-1), LeftAlone.NONE);
        due.is("trace(16)", x.trace(16), LeftAlone.NONE);
        due.is("trace(most)", x.trace(Integer.MAX_VALUE), LeftAlone.NONE);
        Due.read(x, "d1,0;m0,0;p0,1,0;");
        due.is("the trace stays with another TOWN", x.trace(0), 23);
    }
}
