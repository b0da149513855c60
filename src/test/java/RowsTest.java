/** Promises 1 to 5, and 40, 41 as far as ROWS go. */
public final class RowsTest {
    private static final int NULL = -1000011, PLACE = -1000012, SIZE = -1000014, STORE = -1000015;
    private static final Due due = new Due("RowsTest");

    public static void main(String[] args) {
        newObject();
        rows();
        sets();
        copies();
        drops();
        statuses();
        due.end();
    }

    private static void newObject() {
        LeftAlone x = new LeftAlone();
        for (int what = 0; what <= 7; what++) {
            due.is("new: count(" + what + ")", x.count(what), 0);
        }
        due.is("new: count(-1)", x.count(-1), LeftAlone.BAD);
        due.is("new: count(8)", x.count(8), LeftAlone.BAD);
        due.is("new: status()", x.status(), 0);
        due.is("new: fault()", x.fault(), 0);
        due.is("new: alone()", x.alone(), LeftAlone.STATE);
        for (int row = 0; row < 8; row++) {
            due.is("new: drop", x.drop(row), NULL);
        }
    }

    private static void rows() {
        LeftAlone x = new LeftAlone();
        due.is("row(0, 0, 40)", x.row(0, 0, 40), 40);
        due.is("row(7, 2, 0)", x.row(7, 2, 0), 0);
        due.is("count(0)", x.count(0), 2);
        due.is("row(-1, 0, 1)", x.row(-1, 0, 1), LeftAlone.BAD);
        due.is("row(8, 0, 1)", x.row(8, 0, 1), LeftAlone.BAD);
        due.is("row(0, -1, 1)", x.row(0, -1, 1), LeftAlone.BAD);
        due.is("row(0, 3, 1)", x.row(0, 3, 1), LeftAlone.BAD);
        due.is("row(0, 0, 41)", x.row(0, 0, 41), LeftAlone.BAD);
        due.is("row(8, 0, -1): BAD ahead of SIZE", x.row(8, 0, -1), LeftAlone.BAD);
        due.is("row(0, 3, -1): BAD ahead of SIZE", x.row(0, 3, -1), LeftAlone.BAD);
        due.is("status() behind BAD", x.status(), 0);
        due.is("row(0, 1, -1)", x.row(0, 1, -1), SIZE);
        due.is("row(0, 1, least)", x.row(0, 1, Integer.MIN_VALUE), SIZE);
        due.is("status()", x.status(), 4);
        due.is("row 0 stays: set(0, 39, 5)", x.set(0, 39, 5), 5);
        due.is("row(0, 2, 3) in place", x.row(0, 2, 3), 3);
        due.is("set(0, 3, 1)", x.set(0, 3, 1), PLACE);
        due.is("count(0) as ahead", x.count(0), 2);
        x.row(0, 0, 40);
        x.row(1, 0, 1);
        x.set(1, 0, 9);
        x.copy(0, 39, 1, 0, 1);
        LeftAlone y = Due.of("d1,0;m0,9;p0,1,0;");
        y.row(7, 0, 1);
        y.set(7, 0, 9);
        y.row(7, 0, 1);
        due.is("a new ROW is 0: absent", y.absent(0, 7, 0, 1), 65);
    }

    private static void sets() {
        LeftAlone x = new LeftAlone();
        x.row(0, 0, 2);
        x.row(1, 1, 2);
        x.row(2, 2, 2);
        due.is("bytes 127", x.set(0, 0, 127), 127);
        due.is("bytes 128", x.set(0, 0, 128), -128);
        due.is("bytes 511", x.set(0, 1, 511), -1);
        due.is("bytes -129", x.set(0, 1, -129), 127);
        due.is("shorts 32767", x.set(1, 0, 32767), 32767);
        due.is("shorts 32768", x.set(1, 0, 32768), -32768);
        due.is("shorts 65536", x.set(1, 1, 65536), 0);
        due.is("ints", x.set(2, 1, Integer.MIN_VALUE), Integer.MIN_VALUE);
        due.is("set(-1, 0, 0)", x.set(-1, 0, 0), LeftAlone.BAD);
        due.is("set(8, 0, 0)", x.set(8, 0, 0), LeftAlone.BAD);
        due.is("set(3, 0, 0)", x.set(3, 0, 0), NULL);
        due.is("set(3, -1, 0): NULL ahead of PLACE", x.set(3, -1, 0), NULL);
        due.is("set(0, -1, 0)", x.set(0, -1, 0), PLACE);
        due.is("set(0, 2, 0)", x.set(0, 2, 0), PLACE);
        due.is("set(0, most, 0)", x.set(0, Integer.MAX_VALUE, 0), PLACE);
        due.is("status()", x.status(), 2);
    }

    private static void copies() {
        LeftAlone x = Due.of("d1,0;m10,9;p0,1,0;");
        // FEELS goes 9, 8, 7, .. here, so that absent() shows what stands in a row.
        x.row(0, 2, 6);
        for (int i = 0; i < 6; i++) {
            x.set(0, i, 9 - i);
        }
        due.is("absent: 9 .. 4", x.absent(0, 0, 0, 6), 65);
        due.is("copy upward within itself", x.copy(0, 0, 0, 2, 4), 4);
        due.is("9 stays", x.absent(0, 0, 0, 2), 65);
        due.is("9 .. 6 from 2 on", x.absent(0, 0, 2, 4), 65);
        due.is("copy downward within itself", x.copy(0, 2, 0, 0, 4), 4);
        due.is("9 .. 6 from 0 on", x.absent(0, 0, 0, 4), 65);
        x.row(1, 2, 2);
        due.is("copy(0, 0, 1, 0, 2)", x.copy(0, 0, 1, 0, 2), 2);
        due.is("9, 8", x.absent(0, 1, 0, 2), 65);
        due.is("copy nothing at the ends", x.copy(0, 6, 1, 2, 0), 0);
        due.is("copy(8, ..)", x.copy(8, 0, 1, 0, 1), LeftAlone.BAD);
        due.is("copy(.., -1, ..)", x.copy(0, 0, -1, 0, 1), LeftAlone.BAD);
        due.is("copy from missing", x.copy(5, 0, 0, 0, 1), NULL);
        due.is("copy to missing", x.copy(0, 0, 5, 0, 1), NULL);
        due.is("copy to missing, PLACE too", x.copy(0, -1, 5, 0, 1), NULL);
        x.row(2, 1, 2);
        due.is("copy to shorts", x.copy(0, 0, 2, 0, 1), STORE);
        due.is("status()", x.status(), 5);
        due.is("copy to shorts, PLACE too", x.copy(0, 0, 2, 0, -1), STORE);
        due.is("copy i -1", x.copy(0, -1, 1, 0, 1), PLACE);
        due.is("copy j -1", x.copy(0, 0, 1, -1, 1), PLACE);
        due.is("copy n -1", x.copy(0, 0, 1, 0, -1), PLACE);
        due.is("copy beyond a", x.copy(0, 5, 1, 0, 2), PLACE);
        due.is("copy beyond b", x.copy(0, 0, 1, 1, 2), PLACE);
        due.is("copy i most", x.copy(0, Integer.MAX_VALUE, 1, 0, 1), PLACE);
        due.is("copy n most", x.copy(0, 1, 1, 1, Integer.MAX_VALUE), PLACE);
        due.is("row 1 stays", x.absent(0, 1, 0, 2), 65);
    }

    private static void drops() {
        LeftAlone x = new LeftAlone();
        x.row(3, 1, 7);
        due.is("drop(3)", x.drop(3), 7);
        due.is("count(0)", x.count(0), 0);
        due.is("drop(3) again", x.drop(3), NULL);
        due.is("set(3, 0, 1)", x.set(3, 0, 1), NULL);
        due.is("drop(-1)", x.drop(-1), LeftAlone.BAD);
        due.is("drop(8)", x.drop(8), LeftAlone.BAD);
    }

    private static void statuses() {
        LeftAlone x = new LeftAlone();
        x.drop(0);
        due.is("status() NULL", x.status(), 1);
        x.drop(9);
        x.feed(-1);
        x.days(1);
        due.is("status() stays", x.status(), 1);
        x.row(0, 0, 1);
        due.is("status() 0 again", x.status(), 0);
        x.set(0, 1, 1);
        due.is("status() PLACE", x.status(), 2);
        x.copy(0, 0, 0, 0, 1);
        due.is("status() behind copy", x.status(), 0);
        x.set(0, 1, 1);
        x.set(0, 0, 1);
        due.is("status() behind set", x.status(), 0);
        x.set(0, 1, 1);
        x.drop(0);
        due.is("status() behind drop", x.status(), 0);
    }
}
