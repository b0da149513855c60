/** Promises 6 to 8: the tape, and how a TOWN is read from it. */
public final class TextTest {
    private static final String LAW = "d1,0;", MAN = "m0,0;", ONE = "p0,1,0;";
    private static final Due due = new Due("TextTest");

    public static void main(String[] args) {
        tape();
        wellTold();
        faults();
        room();
        allStays();
        due.end();
    }

    private static void tape() {
        LeftAlone x = new LeftAlone();
        due.is("feed(-1)", x.feed(-1), LeftAlone.BAD);
        due.is("feed(256)", x.feed(256), LeftAlone.BAD);
        for (int i = 1; i <= 120; i++) {
            due.is("feed " + i, x.feed(i == 1 ? 0 : 255), i);
        }
        due.is("feed: full", x.feed(1), LeftAlone.FULL);
        due.is("feed: BAD ahead of FULL", x.feed(256), LeftAlone.BAD);
        due.is("count(7)", x.count(7), 120);
        due.is("town()", x.town(), -1000100);
        due.is("count(7) behind it", x.count(7), 0);
        due.is("feed again", x.feed(1), 1);
    }

    private static void wellTold() {
        LeftAlone x = new LeftAlone();
        due.is("least town", Due.read(x, LAW + MAN + ONE), 1);
        due.is("most town", Due.read(x, "d9,9;m60,9;m60,9;m60,9;m60,9;m60,9;"
                + "p4,9,4;f4,9,4;s4,9,4;i4,9,4;w4,9,4;p0,1,0;"), 6);
        due.is("count(1)", x.count(1), 5);
        due.is("count(4)", x.count(4), 300);
        for (int one = 0; one < 5; one++) {
            due.is("kind(" + one + ")", x.kind(one), one + 1);
            due.is("house", x.leaver(one, 0), 4);
            due.is("weight", x.leaver(one, 1), 9);
            due.is("pace", x.leaver(one, 2), 4);
        }
        due.is("patience", x.man(4, 1), 9);
        due.is("two figures with 0 ahead", Due.read(x, "d01,00;m05,03;p00,04,02;"), 1);
        due.is("FEELS 05", x.man(0, 0), 5);
        due.is("WEIGHT 04", x.leaver(0, 1), 4);
        due.is("fault() yet", x.fault(), 0);
    }

    private static void fault(String text, int place, int number) {
        LeftAlone x = new LeftAlone();
        due.is("town of '" + text + "'", Due.read(x, text), -1000100 - place);
        due.is("fault of '" + text + "'", x.fault(), number);
        due.is("no MEN of '" + text + "'", x.count(1), 0);
        due.is("no LEAVERS of '" + text + "'", x.count(2), 0);
    }

    private static void faults() {
        String whole = "d1,0;m0,0;p0,1,0;";
        for (int cut = 0; cut < whole.length(); cut++) {
            fault(whole.substring(0, cut), cut, 1);
        }
        fault("m0,0;", 0, 1);
        fault("D1,0;", 0, 1);
        fault(" d1,0;", 0, 1);
        fault("d;", 1, 1);
        fault("dd", 1, 1);
        fault("d1;0;", 2, 1);
        fault("d1,0,", 4, 1);
        fault("d0,0;", 1, 2);
        fault("d10,0;", 1, 2);
        fault("d100,0;", 1, 1);
        fault("d001,0;", 1, 1);
        fault("d1,100;", 3, 1);
        fault("d1,10;", 3, 2);
        fault("d1 ,0;", 2, 1);
        fault("d-1,0;", 1, 1);
        fault(LAW + ONE, 5, 1);
        fault(LAW + "m61,0;" + ONE, 6, 2);
        fault(LAW + "m0,10;" + ONE, 8, 2);
        fault(LAW + "m000,0;" + ONE, 6, 1);
        fault(LAW + "m0000000000000,0;" + ONE, 6, 1);
        fault(LAW + MAN, 10, 1);
        fault(LAW + MAN + "q0,1,0;", 10, 1);
        fault(LAW + MAN + "l0,1,0;", 10, 1);
        fault(LAW + MAN + "d0,1,0;", 10, 1);
        fault(LAW + MAN + "p1,1,0;", 11, 2);
        fault(LAW + MAN + MAN + "p2,1,0;", 16, 2);
        fault(LAW + MAN + "p0,0,0;", 13, 2);
        fault(LAW + MAN + "p0,10,0;", 13, 2);
        fault(LAW + MAN + "p0,1,5;", 15, 2);
        fault(LAW + MAN + "p0,1;", 14, 1);
        fault(LAW + MAN + ONE + "x", 17, 1);
        fault(LAW + MAN + ONE + " ", 17, 1);
        fault(LAW + MAN + ONE + MAN, 17, 1);
        fault(LAW + MAN + ONE + ";", 17, 1);
        fault(LAW + MAN + ONE + "5", 17, 1);
        fault(LAW + MAN + "p9,99,9;", 11, 2);
        fault("d1,0;m0,0;p0,1,0;" + (char) 233, 17, 1);
        fault("d" + (char) 0 + ",0;", 1, 1);
        fault(LAW + MAN + ONE + (char) 0, 17, 1);
        fault(LAW + MAN + ONE + (char) 255, 17, 1);
    }

    private static void room() {
        String men = LAW + MAN + MAN + MAN + MAN + MAN;
        fault(men + MAN + ONE, 30, 3);
        fault(men + "m", 30, 3);
        fault(men + "q", 30, 1);
        fault(men, 30, 1);
        String leavers = LAW + MAN + ONE + ONE + ONE + ONE + ONE + ONE;
        fault(leavers + ONE, 52, 3);
        fault(leavers + "w", 52, 3);
        fault(leavers + "m", 52, 1);
        fault(leavers + "q", 52, 1);
        fault(leavers + "1", 52, 1);
    }

    private static void allStays() {
        LeftAlone x = Due.of("d2,3;m10,4;m5,1;p0,5,0;f1,2,1;");
        x.bar(1, 1);
        x.days(2);
        due.is("fault in place 0", Due.read(x, "x"), -1000100);
        due.is("fault()", x.fault(), 1);
        due.is("MEN stay", x.count(1), 2);
        due.is("DAY stays", x.count(3), 2);
        due.is("BARRED stay", x.count(5), 2);
        due.is("ACTS stay", x.count(6), 3);
        due.is("undo", x.undo(), 2);
        due.is("fault 2", Due.read(x, "d0,"), -1000101);
        due.is("fault()", x.fault(), 2);
        due.is("a TOWN anew", Due.read(x, LAW + MAN + ONE), 1);
        due.is("fault() is the latest yet", x.fault(), 2);
        due.is("DAY 0", x.count(3), 0);
        due.is("nobody BARRED", x.count(5), 0);
        due.is("no ACT", x.count(6), 0);
        due.is("undo", x.undo(), LeftAlone.STATE);
        due.is("away since read", x.leaver(0, 5), 0);
    }
}
