/** Promises 1 to 5: each sentence that names an edge, on both sides of it. */
public final class EdgesOfRowsTest {
    private static final int NULL = -1000011, PLACE = -1000012, SIZE = -1000014, STORE = -1000015;
    private static final int BAD = LeftAlone.BAD, LEAST = Integer.MIN_VALUE, MOST = Integer.MAX_VALUE;
    private static final Due due = new Due("EdgesOfRowsTest");

    public static void main(String[] args) {
        noTown();
        missingAtFirst();
        lanes();
        sizes();
        nothingAtFirst();
        inPlace();
        badAheadOfSize();
        lowestBits();
        setRefusals();
        copyRefusals();
        copyEnds();
        copyBelowNothing();
        copyAsAhead();
        copyAlters();
        drops();
        findingsByNumber();
        due.end();
    }

    private static void noTown() {
        due.says(1, "No TOWN.");
        LeftAlone x = new LeftAlone();
        due.is("count(1)", x.count(1), 0);
        due.is("count(2)", x.count(2), 0);
        due.is("alone()", x.alone(), LeftAlone.STATE);
        due.is("man(0, 0)", x.man(0, 0), BAD);
        due.is("leaver(0, 0)", x.leaver(0, 0), BAD);
        due.is("kind(0)", x.kind(0), BAD);
        Due.read(x, "d1,0;m0,0;p0,1,0;");
        due.is("count(1), a TOWN", x.count(1), 1);
        due.is("alone(), a TOWN", x.alone(), 1);
        due.is("the TOWN is of one object alone", new LeftAlone().count(1), 0);
    }

    private static void missingAtFirst() {
        due.says(0, "ROWS 0 .. 7 are missing (at first)");
        LeftAlone x = new LeftAlone();
        due.is("count(0)", x.count(0), 0);
        for (int row = 0; row <= 7; row++) {
            due.is("set(" + row + ", 0, 0)", x.set(row, 0, 0), NULL);
            due.is("drop(" + row + ")", x.drop(row), NULL);
            due.is("row(" + row + ", 0, 1)", x.row(row, 0, 1), 1);
            due.is("set(" + row + ", 0, 0) then", x.set(row, 0, 0), 0);
            due.is("count(0)", x.count(0), row + 1);
        }
        due.says(2, "BAD: ROW, LANE, n above 40; SIZE.");
        for (int row : new int[] {LEAST, -1, 8, MOST}) {
            due.is("row(" + row + ", 0, 1)", x.row(row, 0, 1), BAD);
        }
        due.is("count(0) yet", x.count(0), 8);
    }

    private static void lanes() {
        due.says(2, "BAD: ROW, LANE, n above 40; SIZE.");
        LeftAlone x = new LeftAlone();
        due.is("LANE -1", x.row(0, -1, 1), BAD);
        due.is("LANE 3", x.row(0, 3, 1), BAD);
        due.is("LANE, least", x.row(0, LEAST, 1), BAD);
        due.is("LANE, most", x.row(0, MOST, 1), BAD);
        due.is("no ROW by it", x.count(0), 0);
        for (int lane = 0; lane <= 2; lane++) {
            due.is("LANE " + lane, x.row(lane, lane, 1), 1);
        }
        due.is("ROWS", x.count(0), 3);
    }

    private static void sizes() {
        due.says(0, "0 to 40 ITEMS");
        for (int lane = 0; lane <= 2; lane++) {
            LeftAlone x = new LeftAlone();
            due.is("n -1", x.row(0, lane, -1), SIZE);
            due.is("n, least", x.row(0, lane, LEAST), SIZE);
            due.is("n 41", x.row(0, lane, 41), BAD);
            due.is("n, most", x.row(0, lane, MOST), BAD);
            due.is("no ROW by it", x.count(0), 0);
            due.is("n 0", x.row(1, lane, 0), 0);
            due.is("n 0: ITEM 0", x.set(1, 0, 1), PLACE);
            due.is("n 1", x.row(2, lane, 1), 1);
            due.is("n 1: ITEM 0", x.set(2, 0, 1), 1);
            due.is("n 1: ITEM 1", x.set(2, 1, 1), PLACE);
            due.is("n 39", x.row(3, lane, 39), 39);
            due.is("n 39: ITEM 39", x.set(3, 39, 1), PLACE);
            due.is("n 40", x.row(4, lane, 40), 40);
            due.is("n 40: ITEM 39", x.set(4, 39, 1), 1);
            due.is("n 40: ITEM 40", x.set(4, 40, 1), PLACE);
        }
    }

    private static void nothingAtFirst() {
        due.says(0, "0 at first.");
        LeftAlone x = Due.of(Due.LOOKING);
        x.row(0, 2, 40);
        for (int i = 0; i < 40; i++) {
            due.is("ITEM " + i, Due.item(x, 0, i), 0);
        }
        for (int i = 0; i < 40; i++) {
            x.set(0, i, 3);
        }
        due.is("ITEM 39, set", Due.item(x, 0, 39), 3);
        x.row(0, 2, 40);
        for (int i = 0; i < 40; i++) {
            due.is("ITEM " + i + " of the ROW in place of it", Due.item(x, 0, i), 0);
        }
        x.row(1, 0, 2);
        x.set(1, 1, 4);
        x.drop(1);
        x.row(1, 0, 2);
        due.is("ITEM 1 of the ROW behind a drop", Due.item(x, 1, 1), 0);
    }

    private static void inPlace() {
        due.says(2, "in place of what is there: n.");
        LeftAlone x = new LeftAlone();
        x.row(0, 2, 40);
        x.row(1, 2, 1);
        due.is("fewer ITEMS", x.row(0, 2, 2), 2);
        due.is("ITEM 2 is there no more", x.set(0, 2, 1), PLACE);
        due.is("ITEM 1", x.set(0, 1, 1), 1);
        due.is("more ITEMS", x.row(0, 2, 4), 4);
        due.is("ITEM 3", x.set(0, 3, 1), 1);
        due.is("LANE alike", x.copy(0, 0, 1, 0, 1), 1);
        due.is("another LANE", x.row(0, 1, 4), 4);
        due.is("LANE not alike", x.copy(0, 0, 1, 0, 1), STORE);
        due.is("set of shorts", x.set(0, 0, 65536 + 5), 5);
        due.is("ROWS", x.count(0), 2);
    }

    private static void badAheadOfSize() {
        due.says(2, "BAD: ROW, LANE, n above 40; SIZE.");
        LeftAlone x = new LeftAlone();
        due.is("ROW 8, n -1", x.row(8, 0, -1), BAD);
        due.is("ROW -1, n -1", x.row(-1, 0, -1), BAD);
        due.is("LANE 3, n -1", x.row(0, 3, -1), BAD);
        due.is("LANE -1, n -1", x.row(0, -1, -1), BAD);
        due.is("nothing found", x.status(), 0);
        due.is("ROW 7, LANE 2, n -1", x.row(7, 2, -1), SIZE);
        due.is("found", x.status(), 4);
    }

    private static void bits(LeftAlone x, int row, int v, int want) {
        due.is("set(" + row + ", 0, " + v + ")", x.set(row, 0, v), want);
    }

    private static void lowestBits() {
        due.says(3, "ITEM i becomes v, its lowest bits, as many as the LANE has: what it is then.");
        LeftAlone x = Due.of(Due.LOOKING);
        for (int lane = 0; lane <= 2; lane++) {
            x.row(lane, lane, 1);
            bits(x, lane, 0, 0);
            bits(x, lane, -1, -1);
            bits(x, lane, 127, 127);
            bits(x, lane, -128, -128);
        }
        bits(x, 0, 128, -128);
        bits(x, 0, -129, 127);
        bits(x, 0, 255, -1);
        bits(x, 0, 256, 0);
        bits(x, 0, 32768, 0);
        bits(x, 0, LEAST, 0);
        bits(x, 0, MOST, -1);
        bits(x, 1, 128, 128);
        bits(x, 1, 32767, 32767);
        bits(x, 1, 32768, -32768);
        bits(x, 1, -32768, -32768);
        bits(x, 1, -32769, 32767);
        bits(x, 1, 65535, -1);
        bits(x, 1, 65536, 0);
        bits(x, 1, LEAST, 0);
        bits(x, 2, 32768, 32768);
        bits(x, 2, 65536, 65536);
        bits(x, 2, LEAST, LEAST);
        bits(x, 2, MOST, MOST);
        x.set(0, 0, 256 + 3);
        due.is("bytes: 259 is kept as 3", Due.item(x, 0, 0), 3);
        x.set(1, 0, 256 + 3);
        due.is("shorts: 259 is kept as it is", Due.item(x, 1, 0), -1);
        x.set(1, 0, 65536 + 2);
        due.is("shorts: 65538 is kept as 2", Due.item(x, 1, 0), 2);
        x.set(2, 0, 65536 + 2);
        due.is("ints: 65538 is kept as it is", Due.item(x, 2, 0), -1);
    }

    private static void setRefusals() {
        due.says(3, "BAD: ROW; NULL; PLACE.");
        LeftAlone x = new LeftAlone();
        x.row(0, 2, 3);
        x.row(7, 2, 3);
        for (int row : new int[] {LEAST, -1, 8, MOST}) {
            due.is("ROW " + row, x.set(row, 0, 1), BAD);
            due.is("ROW " + row + ", no such place", x.set(row, 3, 1), BAD);
        }
        due.is("ROW 0", x.set(0, 0, 1), 1);
        due.is("ROW 7", x.set(7, 0, 1), 1);
        due.is("missing", x.set(1, 0, 1), NULL);
        due.is("missing, place -1", x.set(1, -1, 1), NULL);
        due.is("missing, place 40", x.set(1, 40, 1), NULL);
        due.is("place, least", x.set(0, LEAST, 1), PLACE);
        due.is("place -1", x.set(0, -1, 1), PLACE);
        due.is("place 0", x.set(0, 0, 1), 1);
        due.is("place 2", x.set(0, 2, 1), 1);
        due.is("place 3", x.set(0, 3, 1), PLACE);
        due.is("place, most", x.set(0, MOST, 1), PLACE);
    }

    private static void copyRefusals() {
        due.says(4, "BAD: ROWS; NULL; STORE; PLACE (i, j, n below 0, or beyond an end).");
        LeftAlone x = new LeftAlone();
        for (int lane = 0; lane <= 2; lane++) {
            x.row(lane, lane, 2);
        }
        x.row(7, 2, 2);
        for (int row : new int[] {LEAST, -1, 8, MOST}) {
            due.is("from " + row, x.copy(row, 0, 0, 0, 1), BAD);
            due.is("to " + row, x.copy(0, 0, row, 0, 1), BAD);
            due.is("from missing to " + row, x.copy(5, 0, row, 0, 1), BAD);
            due.is("from " + row + " to missing", x.copy(row, 0, 5, 0, 1), BAD);
            due.is("to " + row + ", no such place", x.copy(0, 9, row, 9, 9), BAD);
        }
        due.is("from 7", x.copy(7, 0, 2, 0, 1), 1);
        due.is("to 7", x.copy(2, 0, 7, 0, 1), 1);
        due.is("from missing", x.copy(5, 0, 0, 0, 1), NULL);
        due.is("to missing", x.copy(0, 0, 5, 0, 1), NULL);
        due.is("both missing", x.copy(5, 0, 6, 0, 1), NULL);
        due.is("the same one, missing", x.copy(5, 0, 5, 0, 0), NULL);
        due.is("from missing, no such place", x.copy(5, -1, 0, 9, -1), NULL);
        due.is("to missing, no such place", x.copy(0, -1, 5, 9, -1), NULL);
        for (int a = 0; a <= 2; a++) {
            for (int b = 0; b <= 2; b++) {
                due.is("LANES " + a + ", " + b, x.copy(a, 0, b, 0, 2), a == b ? 2 : STORE);
                due.is("LANES " + a + ", " + b + ", nothing", x.copy(a, 0, b, 0, 0), a == b ? 0 : STORE);
                due.is("LANES " + a + ", " + b + ", no such place", x.copy(a, 0, b, 0, 3),
                        a == b ? PLACE : STORE);
                due.is("LANES " + a + ", " + b + ", below 0", x.copy(a, -1, b, -1, -1),
                        a == b ? PLACE : STORE);
            }
        }
    }

    private static void copyEnds() {
        due.says(4, "beyond an end");
        LeftAlone x = new LeftAlone();
        x.row(0, 2, 5);
        x.row(1, 2, 3);
        x.row(2, 2, 0);
        x.row(3, 2, 40);
        x.row(4, 2, 40);
        due.is("all of b", x.copy(0, 0, 1, 0, 3), 3);
        due.is("one more than b has", x.copy(0, 0, 1, 0, 4), PLACE);
        due.is("to the end of a", x.copy(0, 2, 1, 0, 3), 3);
        due.is("beyond the end of a", x.copy(0, 3, 1, 0, 3), PLACE);
        due.is("to the end of b", x.copy(0, 0, 1, 1, 2), 2);
        due.is("beyond the end of b", x.copy(0, 0, 1, 2, 2), PLACE);
        due.is("all of a longer one", x.copy(1, 0, 0, 2, 3), 3);
        due.is("one more than a has", x.copy(1, 0, 0, 0, 4), PLACE);
        due.is("40", x.copy(3, 0, 4, 0, 40), 40);
        due.is("41", x.copy(3, 0, 4, 0, 41), PLACE);
        due.is("nothing at the ends", x.copy(0, 5, 1, 3, 0), 0);
        due.is("nothing beyond the end of a", x.copy(0, 6, 1, 3, 0), PLACE);
        due.is("nothing beyond the end of b", x.copy(0, 5, 1, 4, 0), PLACE);
        due.is("nothing of nothing", x.copy(2, 0, 2, 0, 0), 0);
        due.is("one of nothing", x.copy(2, 0, 1, 0, 1), PLACE);
        due.is("one to nothing", x.copy(1, 0, 2, 0, 1), PLACE);
        due.is("i, most", x.copy(0, MOST, 1, 0, 1), PLACE);
        due.is("j, most", x.copy(0, 0, 1, MOST, 1), PLACE);
        due.is("n, most", x.copy(0, 0, 1, 0, MOST), PLACE);
        due.is("i and n, most", x.copy(0, MOST, 1, 0, MOST), PLACE);
        due.is("i 1, n most", x.copy(0, 1, 1, 1, MOST), PLACE);
        due.is("i, most, nothing", x.copy(0, MOST, 1, 0, 0), PLACE);
    }

    private static void copyBelowNothing() {
        due.says(4, "PLACE (i, j, n below 0");
        LeftAlone x = new LeftAlone();
        x.row(0, 2, 5);
        x.row(1, 2, 3);
        for (int below : new int[] {-1, LEAST}) {
            due.is("i " + below, x.copy(0, below, 1, 0, 1), PLACE);
            due.is("i " + below + ", nothing", x.copy(0, below, 1, 0, 0), PLACE);
            due.is("j " + below, x.copy(0, 0, 1, below, 1), PLACE);
            due.is("j " + below + ", nothing", x.copy(0, 0, 1, below, 0), PLACE);
            due.is("n " + below, x.copy(0, 0, 1, 0, below), PLACE);
            due.is("n " + below + " at the ends", x.copy(0, 5, 1, 3, below), PLACE);
            due.is("n " + below + " far on", x.copy(0, MOST, 1, MOST, below), PLACE);
        }
        due.is("i, j, n 0", x.copy(0, 0, 1, 0, 0), 0);
    }

    private static void look(String what, LeftAlone x, int row, int... want) {
        for (int i = 0; i < want.length; i++) {
            due.is(what + ": ITEM " + i, Due.item(x, row, i), want[i]);
        }
    }

    private static LeftAlone counted() {
        LeftAlone x = Due.of(Due.LOOKING);
        x.row(0, 1, 5);
        for (int i = 0; i < 5; i++) {
            x.set(0, i, i);
        }
        return x;
    }

    private static void copyAsAhead() {
        due.says(4, "n ITEMS of a from i on come to b from j on, as they were ahead: n.");
        LeftAlone x = counted();
        due.is("up by 1", x.copy(0, 0, 0, 1, 4), 4);
        look("up by 1", x, 0, 0, 0, 1, 2, 3);
        x = counted();
        due.is("down by 1", x.copy(0, 1, 0, 0, 4), 4);
        look("down by 1", x, 0, 1, 2, 3, 4, 4);
        x = counted();
        due.is("to where they are", x.copy(0, 0, 0, 0, 5), 5);
        look("to where they are", x, 0, 0, 1, 2, 3, 4);
        x = counted();
        due.is("one", x.copy(0, 4, 0, 0, 1), 1);
        look("one", x, 0, 4, 1, 2, 3, 4);
        x = counted();
        due.is("nothing", x.copy(0, 4, 0, 0, 0), 0);
        look("nothing", x, 0, 0, 1, 2, 3, 4);
    }

    private static void copyAlters() {
        due.says(4, "n ITEMS of a from i on come to b from j on, as they were ahead: n.");
        LeftAlone x = counted();
        x.row(1, 1, 5);
        due.is("2 of 0 to 1", x.copy(0, 2, 1, 1, 2), 2);
        look("a stays", x, 0, 0, 1, 2, 3, 4);
        look("b", x, 1, 0, 2, 3, 0, 0);
        x.set(0, 2, 4);
        due.is("b is no part of a", Due.item(x, 1, 1), 2);
        due.is("refused", x.copy(0, 0, 1, 3, 3), PLACE);
        look("b stays", x, 1, 0, 2, 3, 0, 0);
    }

    private static void drops() {
        due.says(5, "A ROW is missing from now on: how many ITEMS it had. BAD; NULL.");
        LeftAlone x = new LeftAlone();
        x.row(0, 0, 0);
        x.row(3, 1, 1);
        x.row(7, 2, 40);
        for (int row : new int[] {LEAST, -1, 8, MOST}) {
            due.is("drop(" + row + ")", x.drop(row), BAD);
        }
        due.is("never there", x.drop(1), NULL);
        due.is("ROWS", x.count(0), 3);
        due.is("40 ITEMS", x.drop(7), 40);
        due.is("ROWS", x.count(0), 2);
        due.is("missing", x.drop(7), NULL);
        due.is("set: missing", x.set(7, 0, 1), NULL);
        due.is("no ITEMS", x.drop(0), 0);
        due.is("no ITEMS: missing", x.drop(0), NULL);
        due.is("one ITEM", x.drop(3), 1);
        due.is("ROWS", x.count(0), 0);
        due.is("there again", x.row(7, 0, 3), 3);
        due.is("there again: so many ITEMS", x.drop(7), 3);
    }

    private static void findingsByNumber() {
        due.says(0, "-1000010 less 1 NULL (a ROW that is missing), 2 PLACE (no such place of a ROW)");
        LeftAlone x = new LeftAlone();
        due.is("NULL", x.drop(0), -1000011);
        due.is("its number", x.status(), 1);
        x.row(0, 0, 1);
        x.row(1, 1, 1);
        due.is("PLACE", x.set(0, 1, 0), -1000012);
        due.is("its number", x.status(), 2);
        due.says(0, "4 SIZE (fewer than none), 5 STORE (ROWS of two LANES)");
        due.is("SIZE", x.row(0, 0, -1), -1000014);
        due.is("its number", x.status(), 4);
        due.is("STORE", x.copy(0, 0, 1, 0, 1), -1000015);
        due.is("its number", x.status(), 5);
    }
}
