/**
 * The promises 1 to 41 in the order of the document, each with all of its words, and with answers
 * that were worked out from them by hand: ordinary ones, the edges told, and wrong numbers.
 */
public final class PromisesTest {
    private static final int NONE = LeftAlone.NONE, BAD = LeftAlone.BAD;
    private static final int STATE = LeftAlone.STATE, FULL = LeftAlone.FULL;
    private static final int NULL = -1000011, PLACE = -1000012, KIND = -1000013;
    private static final int SIZE = -1000014, STORE = -1000015, FAULT = -1000100;
    /**
     * It rains on DAYS 0, 3, 6, 9, 10, 13, ..; what is felt behind DAY 0: 17 18 60, DAY 1: 16 32 57, DAY 2:
     * 13 38 54, DAY 3: 10 49 64, DAY 4: 9 64 61, DAY 5: 6 70 58, DAY 6: 12 81 68.
     */
    private static final String TOWN = "d3,4;m20,5;m7,0;m50,9;f0,4,1;p1,6,0;s2,9,2;i1,5,1;w2,3,0;";
    private static final Due due = new Due("PromisesTest");

    public static void main(String[] args) {
        aNewObject();
        row();
        set();
        copy();
        drop();
        feed();
        town();
        fault();
        undo();
        days();
        send();
        weight();
        bar();
        patience();
        leaver();
        man();
        ahead();
        awayAhead();
        first();
        reach();
        usual();
        fewest();
        bestHouse();
        tells();
        who();
        houses();
        weights();
        absent();
        greets();
        talk();
        alone();
        rain();
        drawn();
        image();
        restore();
        kind();
        as();
        ask();
        trace();
        count();
        status();
        due.saidAll(41);
        due.end();
    }

    private static void felt(String when, LeftAlone x, int... felt) {
        for (int man = 0; man < felt.length; man++) {
            due.is(when + ": MAN " + man + " FEELS", x.man(man, 0), felt[man]);
        }
    }

    private static void aNewObject() {
        due.says(1, "No TOWN.");
        LeftAlone x = new LeftAlone();
        for (int what = 0; what <= 7; what++) {
            due.is("count(" + what + ")", x.count(what), 0);
        }
        due.is("MAN 0", x.man(0, 0), BAD);
        due.is("LEAVER 0", x.leaver(0, 0), BAD);
        due.is("alone()", x.alone(), STATE);
        due.is("fault()", x.fault(), 0);
        due.is("status()", x.status(), 0);
        due.is("trace(0)", x.trace(0), NONE);
    }

    private static void row() {
        due.says(2, "A ROW of a LANE with n ITEMS, in place of what is there: n. BAD: ROW, LANE, n above 40; SIZE.");
        LeftAlone x = new LeftAlone();
        due.is("row(0, 0, 3)", x.row(0, 0, 3), 3);
        due.is("row(7, 2, 40)", x.row(7, 2, 40), 40);
        due.is("two ROWS", x.count(0), 2);
        due.is("row(0, 1, 0)", x.row(0, 1, 0), 0);
        due.is("two ROWS yet", x.count(0), 2);
        due.is("ROW 0 has none now", x.set(0, 0, 1), PLACE);
        due.is("row(8, 0, 3)", x.row(8, 0, 3), BAD);
        due.is("row(-1, 0, 3)", x.row(-1, 0, 3), BAD);
        due.is("row(0, 3, 3)", x.row(0, 3, 3), BAD);
        due.is("row(0, -1, 3)", x.row(0, -1, 3), BAD);
        due.is("row(0, 0, 41)", x.row(0, 0, 41), BAD);
        due.is("row(0, 0, -1)", x.row(0, 0, -1), SIZE);
        due.is("row(8, 0, -1)", x.row(8, 0, -1), BAD);
    }

    private static void set() {
        due.says(3, "ITEM i becomes v, its lowest bits, as many as the LANE has: what it is then. BAD: ROW; NULL; PLACE.");
        LeftAlone x = new LeftAlone();
        x.row(0, 0, 2);
        x.row(1, 1, 2);
        x.row(2, 2, 2);
        due.is("a byte", x.set(0, 1, 100), 100);
        due.is("8 bits", x.set(0, 1, 256 + 5), 5);
        due.is("16 bits", x.set(1, 1, 65536 + 5), 5);
        due.is("a short", x.set(1, 1, 256 + 5), 261);
        due.is("32 bits", x.set(2, 1, 65536 + 5), 65541);
        due.is("set(8, 0, 0)", x.set(8, 0, 0), BAD);
        due.is("set(3, 0, 0)", x.set(3, 0, 0), NULL);
        due.is("set(0, 2, 0)", x.set(0, 2, 0), PLACE);
        due.is("set(0, -1, 0)", x.set(0, -1, 0), PLACE);
    }

    private static void copy() {
        due.says(4, "n ITEMS of a from i on come to b from j on, as they were ahead: n. BAD: ROWS; NULL; STORE; PLACE (i, j, n below 0, or beyond an end).");
        LeftAlone x = Due.of(Due.LOOKING);
        Due.tell(x, 1, 2, 3, 4);
        due.is("copy(7, 0, 7, 1, 3)", x.copy(7, 0, 7, 1, 3), 3);
        int[] then = {1, 1, 2, 3};
        for (int i = 0; i < then.length; i++) {
            due.is("ITEM " + i, Due.item(x, 7, i), then[i]);
        }
        x.row(1, 2, 2);
        x.row(2, 0, 2);
        due.is("copy(7, 2, 1, 0, 2)", x.copy(7, 2, 1, 0, 2), 2);
        due.is("ITEM 1 of ROW 1", Due.item(x, 1, 1), 3);
        due.is("none at both ends", x.copy(7, 4, 1, 2, 0), 0);
        due.is("copy(8, 0, 1, 0, 1)", x.copy(8, 0, 1, 0, 1), BAD);
        due.is("copy(1, 0, 8, 0, 1)", x.copy(1, 0, 8, 0, 1), BAD);
        due.is("copy(3, 0, 2, 0, 9)", x.copy(3, 0, 2, 0, 9), NULL);
        due.is("copy(7, 0, 2, 0, 9)", x.copy(7, 0, 2, 0, 9), STORE);
        due.is("copy(7, 2, 1, 0, 3)", x.copy(7, 2, 1, 0, 3), PLACE);
        due.is("copy(7, 0, 1, 1, 2)", x.copy(7, 0, 1, 1, 2), PLACE);
        due.is("copy(7, -1, 1, 0, 1)", x.copy(7, -1, 1, 0, 1), PLACE);
        due.is("copy(7, 0, 1, -1, 1)", x.copy(7, 0, 1, -1, 1), PLACE);
        due.is("copy(7, 0, 1, 0, -1)", x.copy(7, 0, 1, 0, -1), PLACE);
    }

    private static void drop() {
        due.says(5, "A ROW is missing from now on: how many ITEMS it had. BAD; NULL.");
        LeftAlone x = new LeftAlone();
        x.row(4, 1, 17);
        due.is("drop(4)", x.drop(4), 17);
        due.is("drop(4) again", x.drop(4), NULL);
        due.is("no ROWS", x.count(0), 0);
        due.is("drop(8)", x.drop(8), BAD);
        due.is("drop(-1)", x.drop(-1), BAD);
    }

    private static void feed() {
        due.says(6, "A byte (0 to 255) comes behind the tape: how many it has. BAD; FULL.");
        LeftAlone x = new LeftAlone();
        due.is("feed(0)", x.feed(0), 1);
        due.is("feed(255)", x.feed(255), 2);
        due.is("feed(256)", x.feed(256), BAD);
        due.is("feed(-1)", x.feed(-1), BAD);
        for (int many = 3; many <= 120; many++) {
            due.is("byte " + many, x.feed('d'), many);
        }
        due.is("byte 121", x.feed('d'), FULL);
        due.is("byte 121, none", x.feed(256), BAD);
        due.is("bytes", x.count(7), 120);
    }

    private static void town() {
        due.says(7, "The tape, empty then, is read: how many LEAVERS there are. -1000100 less the place of a FAULT: all stays.");
        LeftAlone x = new LeftAlone();
        due.is("town()", Due.read(x, TOWN), 5);
        due.is("bytes", x.count(7), 0);
        due.is("MEN", x.count(1), 3);
        due.is("FEELS of all", x.count(4), 77);
        x.days(1);
        due.is("the end", Due.read(x, "d1,0;m0,0;"), FAULT - 10);
        due.is("USED is 0", Due.read(x, "d0,0;m0,0;p0,1,0;"), FAULT - 1);
        due.is("three figures", Due.read(x, "d1,000;"), FAULT - 3);
        due.is("no house", Due.read(x, "d1,0;m0,0;p1,1,0;"), FAULT - 11);
        due.is("a space", Due.read(x, "d1, 0;m0,0;p0,1,0;"), FAULT - 3);
        due.is("nothing", x.town(), FAULT);
        due.is("DAY stays", x.count(3), 1);
        felt("all stays", x, 17, 18, 60);
        due.is("the ACT stays", x.undo(), 0);
        due.is("another", Due.read(x, "d1,0;m1,0;p0,1,0;"), 1);
        due.is("MEN of it", x.count(1), 1);
    }

    private static void fault() {
        due.says(8, "The number of the latest FAULT; 0 before one.");
        LeftAlone x = Due.of(TOWN);
        due.is("before one", x.fault(), 0);
        Due.read(x, "d1,0;m61,0;p0,1,0;");
        due.is("not as told", x.fault(), 2);
        Due.read(x, "d1,0;m0,0;m0,0;m0,0;m0,0;m0,0;m0,0;p0,1,0;");
        due.is("no room", x.fault(), 3);
        Due.read(x, "d1,0;p0,1,0;");
        due.is("it cannot stand there", x.fault(), 1);
    }

    private static void undo() {
        due.says(9, "The latest ACT is undone: how many can be undone yet. STATE: none.");
        LeftAlone x = Due.of(TOWN);
        due.is("none", x.undo(), STATE);
        x.days(2);
        x.send(1, 0);
        x.weight(3, 9);
        x.bar(2, 1);
        x.patience(1, 8);
        due.is("ACTS", x.count(6), 6);
        due.is("PATIENCE", x.undo(), 5);
        due.is("PATIENCE is", x.man(1, 1), 0);
        due.is("BARRED", x.undo(), 4);
        due.is("BARRED are", x.count(5), 0);
        due.is("WEIGHT", x.undo(), 3);
        due.is("WEIGHT is", x.leaver(3, 1), 5);
        due.is("SENT", x.undo(), 2);
        due.is("HOUSE is", x.leaver(1, 0), 1);
        due.is("a DAY", x.undo(), 1);
        felt("DAY 1", x, 17, 18, 60);
        due.is("a DAY", x.undo(), 0);
        felt("DAY 0", x, 20, 7, 50);
        due.is("none again", x.undo(), STATE);
    }

    private static void days() {
        due.says(10, "n DAYS (1 to 24), an ACT each: FEELS of all MEN then. BAD; STATE: no TOWN (ahead of BAD); FULL: DAY would be above 999.");
        LeftAlone x = new LeftAlone();
        due.is("no TOWN", x.days(0), STATE);
        Due.read(x, TOWN);
        due.is("days(0)", x.days(0), BAD);
        due.is("days(25)", x.days(25), BAD);
        due.is("days(1)", x.days(1), 95);
        due.is("days(2)", x.days(2), 105);
        due.is("ACTS", x.count(6), 3);
        due.is("days(4)", x.days(4), 161);
        felt("DAY 7", x, 12, 81, 68);
        for (int i = 0; i < 41; i++) {
            x.days(24);
        }
        due.is("DAY", x.count(3), 991);
        due.is("beyond 999", x.days(9), FULL);
        due.is("beyond 999, no such n", x.days(25), BAD);
        due.holds("to 999", x.days(8) > 0);
        due.is("beyond 999", x.days(1), FULL);
    }

    private static void send() {
        due.says(11, "SENT: the HOUSE he had. BAD.");
        LeftAlone x = Due.of(TOWN);
        x.days(3);
        due.is("times", x.leaver(0, 5), 1);
        due.is("send(0, 1)", x.send(0, 1), 0);
        due.is("send(0, 0)", x.send(0, 0), 1);
        due.is("from none since", x.leaver(0, 5), 0);
        due.is("so he makes felt", x.leaver(0, 4), 4);
        due.is("send(5, 0)", x.send(5, 0), BAD);
        due.is("send(0, 3)", x.send(0, 3), BAD);
        due.is("send(0, -1)", x.send(0, -1), BAD);
    }

    private static void weight() {
        due.says(12, "WEIGHT (1 to 9): what it was. BAD.");
        LeftAlone x = Due.of(TOWN);
        due.is("weight(1, 9)", x.weight(1, 9), 6);
        due.is("weight(1, 1)", x.weight(1, 1), 9);
        due.is("weight(1, 0)", x.weight(1, 0), BAD);
        due.is("weight(1, 10)", x.weight(1, 10), BAD);
        due.is("weight(5, 1)", x.weight(5, 1), BAD);
        due.is("days(1)", x.days(1), 90);
    }

    private static void bar() {
        due.says(13, "BARRED (1), or no more (0): who is (bits). BAD; STATE: it is so.");
        LeftAlone x = Due.of(TOWN);
        due.is("bar(2, 1)", x.bar(2, 1), 4);
        due.is("bar(0, 1)", x.bar(0, 1), 5);
        due.is("bar(0, 1) again", x.bar(0, 1), STATE);
        due.is("bar(2, 0)", x.bar(2, 0), 1);
        due.is("bar(1, 0)", x.bar(1, 0), STATE);
        due.is("bar(3, 1)", x.bar(3, 1), BAD);
        due.is("bar(0, 2)", x.bar(0, 2), BAD);
    }

    private static void patience() {
        due.says(14, "PATIENCE (0 to 9): what it was. BAD.");
        LeftAlone x = Due.of(TOWN);
        due.is("patience(0, 3)", x.patience(0, 3), 5);
        due.is("4 is more than 3", x.days(1), 102);
        felt("DAY 1", x, 24, 18, 60);
        due.is("patience(0, 0)", x.patience(0, 0), 3);
        due.is("patience(0, 9)", x.patience(0, 9), 0);
        due.is("patience(0, 10)", x.patience(0, 10), BAD);
        due.is("patience(0, -1)", x.patience(0, -1), BAD);
        due.is("patience(3, 1)", x.patience(3, 1), BAD);
    }

    private static void leaver() {
        due.says(15, "Of a LEAVER: 0 HOUSE, 1 WEIGHT, 2 PACE, 3 from which house he is away today, 4 what he MAKES felt today, 5 how often he was away from that house since he was sent. BAD.");
        LeftAlone x = Due.of(TOWN);
        x.days(4);
        int[][] told = {{0, 4, 1, 1, 5, 1}, {1, 6, 0, 1, 6, 4}, {2, 9, 2, 1, 4, 1}, {1, 5, 1, 2, 0, 1}, {2, 3, 0, 2, 0, 4}};
        for (int one = 0; one < told.length; one++) {
            for (int what = 0; what < 6; what++) {
                due.is("leaver(" + one + ", " + what + ")", x.leaver(one, what), told[one][what]);
            }
        }
        due.is("leaver(5, 0)", x.leaver(5, 0), BAD);
        due.is("leaver(-1, 0)", x.leaver(-1, 0), BAD);
        due.is("leaver(0, 6)", x.leaver(0, 6), BAD);
        due.is("leaver(0, -1)", x.leaver(0, -1), BAD);
    }

    private static void man() {
        due.says(16, "Of a MAN: 0 FEELS, 1 PATIENCE, 2 whether BARRED (1, 0), 3 who is away from his house today (bits), 4 what they MAKE felt, together. BAD.");
        LeftAlone x = Due.of(TOWN);
        x.days(1);
        x.bar(1, 1);
        int[][] told = {{17, 5, 0, 0, 0}, {18, 0, 1, 7, 14}, {60, 9, 0, 24, 0}};
        for (int man = 0; man < told.length; man++) {
            for (int what = 0; what < 5; what++) {
                due.is("man(" + man + ", " + what + ")", x.man(man, what), told[man][what]);
            }
        }
        due.is("man(3, 0)", x.man(3, 0), BAD);
        due.is("man(-1, 0)", x.man(-1, 0), BAD);
        due.is("man(0, 5)", x.man(0, 5), BAD);
        due.is("man(0, -1)", x.man(0, -1), BAD);
    }

    private static void ahead() {
        due.says(17, "AHEAD: FEELS. BAD.");
        LeftAlone x = Due.of(TOWN);
        int[] ofOne = {20, 17, 16, 13, 10, 9, 6, 12};
        int[] ofOther = {50, 60, 57, 54, 64, 61, 58, 68};
        for (int n = 0; n < ofOne.length; n++) {
            due.is("ahead(0, " + n + ")", x.ahead(0, n), ofOne[n]);
            due.is("ahead(2, " + n + ")", x.ahead(2, n), ofOther[n]);
        }
        // From DAY 27 on the faithful one makes 13 felt each third DAY; 4 less by the others.
        due.is("99 at most", x.ahead(0, 43), 99);
        due.is("ahead(0, 45)", x.ahead(0, 45), 95);
        due.is("99 at most again", x.ahead(0, 46), 99);
        due.is("60 DAYS", x.ahead(0, 60), 95);
        due.is("61 DAYS", x.ahead(0, 61), BAD);
        due.is("ahead(0, -1)", x.ahead(0, -1), BAD);
        due.is("ahead(3, 0)", x.ahead(3, 0), BAD);
    }

    private static void awayAhead() {
        due.says(18, "AHEAD: who is away from his house. BAD.");
        LeftAlone x = Due.of(TOWN);
        int[][] told = {{1, 10, 20}, {0, 7, 24}, {12, 2, 17}, {1, 10, 20}};
        for (int n = 0; n < told.length; n++) {
            for (int man = 0; man < 3; man++) {
                due.is("awayAhead(" + man + ", " + n + ")", x.awayAhead(man, n), told[n][man]);
            }
        }
        due.is("60 DAYS", x.awayAhead(2, 60), 20);
        due.is("61 DAYS", x.awayAhead(2, 61), BAD);
        due.is("awayAhead(2, -1)", x.awayAhead(2, -1), BAD);
        due.is("awayAhead(3, 0)", x.awayAhead(3, 0), BAD);
    }

    private static void first() {
        due.says(19, "FIRST; NONE. BAD.");
        LeftAlone x = Due.of(TOWN);
        due.is("DAY 1 is it", x.first(0), 2);
        due.is("first(1)", x.first(1), NONE);
        due.is("first(2)", x.first(2), NONE);
        x.days(1);
        due.is("today", x.first(0), 1);
        x.days(1);
        due.is("DAY 4 is it", x.first(0), 3);
        due.is("first(3)", x.first(3), BAD);
        due.is("first(-1)", x.first(-1), BAD);
    }

    private static void reach() {
        due.says(20, "REACH; NONE. BAD.");
        LeftAlone x = Due.of(TOWN);
        due.is("now", x.reach(1, 7), 0);
        due.is("reach(1, 8)", x.reach(1, 8), 1);
        due.is("reach(1, 18)", x.reach(1, 18), 1);
        due.is("reach(1, 19)", x.reach(1, 19), 2);
        due.is("reach(1, 81)", x.reach(1, 81), 7);
        due.is("reach(0, 99)", x.reach(0, 99), 43);
        due.is("reach(2, 72)", x.reach(2, 72), 10);
        due.is("reach(2, 73)", x.reach(2, 73), 27);
        LeftAlone slow = Due.of("d1,0;m0,0;p0,1,0;");
        due.is("60 DAYS", slow.reach(0, 60), 60);
        due.is("more than 60", slow.reach(0, 61), NONE);
        due.is("reach(0, 0)", x.reach(0, 0), BAD);
        due.is("reach(0, 100)", x.reach(0, 100), BAD);
        due.is("reach(3, 1)", x.reach(3, 1), BAD);
    }

    private static void usual() {
        due.says(21, "USUAL. BAD.");
        LeftAlone x = Due.of(TOWN);
        due.is("DAY 0", x.usual(0, 1), 1);
        due.is("DAYS 0, 2, 3, 5", x.usual(0, 7), 4);
        due.is("DAYS 1, 2, 4, 5", x.usual(2, 7), 4);
        due.is("never", x.usual(1, 60), 0);
        due.is("usual(0, 0)", x.usual(0, 0), BAD);
        due.is("usual(0, 61)", x.usual(0, 61), BAD);
        due.is("usual(3, 1)", x.usual(3, 1), BAD);
    }

    private static void few(LeftAlone x, int men, int v, int many, int which) {
        due.is("fewest(" + men + ", 1, " + v + ", 0)", x.fewest(men, 1, v, 0), many);
        due.is("fewest(" + men + ", 1, " + v + ", 1)", x.fewest(men, 1, v, 1), which);
    }

    private static void fewest() {
        due.says(22, "FEWEST: how many (what = 0), which (1); NONE. BAD: MEN, n, v, what; STATE: no TOWN (ahead of BAD).");
        due.is("no TOWN", new LeftAlone().fewest(8, 0, 0, 2), STATE);
        LeftAlone x = Due.of(TOWN);
        few(x, 2, 6, 0, 0);
        few(x, 2, 7, 1, 2);
        few(x, 2, 13, 1, 2);
        few(x, 2, 14, 2, 10);
        few(x, 2, 18, 2, 10);
        few(x, 2, 19, NONE, NONE);
        few(x, 4, 49, 0, 0);
        few(x, 4, 50, 2, 20);
        few(x, 6, 18, 2, 10);
        few(x, 6, 50, NONE, NONE);
        few(x, 7, 19, NONE, NONE);
        few(x, 1, 19, 0, 0);
        few(x, 0, 99, 0, 0);
        due.is("MEN 8", x.fewest(8, 1, 1, 0), BAD);
        due.is("MEN -1", x.fewest(-1, 1, 1, 0), BAD);
        due.is("no DAY", x.fewest(1, 0, 1, 0), BAD);
        due.is("31 DAYS", x.fewest(1, 31, 1, 0), BAD);
        due.is("v 0", x.fewest(1, 1, 0, 0), BAD);
        due.is("v 100", x.fewest(1, 1, 100, 0), BAD);
        due.is("what 2", x.fewest(1, 1, 1, 2), BAD);
    }

    private static void bestHouse() {
        due.says(23, "SEND: which (what = 0), how much (1). BAD.");
        LeftAlone x = Due.of(TOWN);
        due.is("where it is 102", x.bestHouse(1, 1, 0), 0);
        due.is("102, 95, 95", x.bestHouse(1, 1, 1), 102);
        due.is("the first of two", x.bestHouse(4, 1, 0), 0);
        due.is("95, 88, 95", x.bestHouse(4, 1, 1), 95);
        x.days(3);
        due.is("on DAY 3 the first of two", x.bestHouse(0, 1, 0), 1);
        due.is("123, 129, 129", x.bestHouse(0, 1, 1), 129);
        due.is("bestHouse(5, 1, 0)", x.bestHouse(5, 1, 0), BAD);
        due.is("bestHouse(0, 0, 0)", x.bestHouse(0, 0, 0), BAD);
        due.is("bestHouse(0, 61, 0)", x.bestHouse(0, 61, 0), BAD);
        due.is("bestHouse(0, 1, 2)", x.bestHouse(0, 1, 2), BAD);
    }

    private static void tells() {
        due.says(24, "TELLS: who (what = 0), by how much (1). BAD; STATE: no TOWN (ahead of BAD).");
        due.is("no TOWN", new LeftAlone().tells(0, 2), STATE);
        LeftAlone x = Due.of(TOWN);
        due.is("the first of two by whom it is 82", x.tells(1, 0), 2);
        due.is("95 with him", x.tells(1, 1), 1013);
        LeftAlone mild = Due.of("d9,0;m20,9;p0,1,0;");
        due.is("the only one", mild.tells(1, 0), 0);
        due.is("11 with him, 19 without", mild.tells(1, 1), 992);
        due.is("tells(0, 0)", x.tells(0, 0), BAD);
        due.is("tells(61, 0)", x.tells(61, 0), BAD);
        due.is("tells(1, 2)", x.tells(1, 2), BAD);
    }

    private static void who() {
        due.says(25, "KINDS, n ITEMS of a ROW from i on. BAD: LEAVER, MAN, ROW, n; NULL; PLACE.");
        LeftAlone x = Due.of(TOWN);
        Due.tell(x, 99, 17, 16, 13, 28, 15);
        due.is("all but a wet one", x.who(0, 0, 7, 1, 3), 30);
        due.is("a wet one", x.who(0, 0, 7, 4, 1), 32);
        due.is("no one", x.who(0, 0, 7, 4, 2), 0);
        due.is("LEAVER 5", x.who(5, 0, 7, 1, 3), BAD);
        due.is("MAN 3", x.who(0, 3, 7, 1, 3), BAD);
        due.is("ROW 8", x.who(0, 0, 8, 1, 3), BAD);
        due.is("n 0", x.who(0, 0, 7, 1, 0), BAD);
        due.is("n 13", x.who(0, 0, 7, 1, 13), BAD);
        due.is("ROW 6 is missing", x.who(0, 0, 6, 1, 3), NULL);
        due.is("from 4 on, 3", x.who(0, 0, 7, 4, 3), PLACE);
        due.is("from -1 on", x.who(0, 0, 7, -1, 3), PLACE);
    }

    private static void houses() {
        due.says(26, "HOUSES, n ITEMS of a ROW from i on. BAD: LEAVER, MAN, ROW, n; NULL; PLACE.");
        LeftAlone x = Due.of(TOWN);
        Due.tell(x, 30, 17, 16, 13, 36);
        due.is("house 0", x.houses(1, 0, 7, 0, 1), 1);
        due.is("houses 1 and 2", x.houses(1, 0, 7, 1, 3), 6);
        due.is("no house", x.houses(1, 0, 7, 4, 1), 0);
        due.is("LEAVER 5", x.houses(5, 0, 7, 0, 1), BAD);
        due.is("MAN 3", x.houses(1, 3, 7, 0, 1), BAD);
        due.is("ROW 8", x.houses(1, 0, 8, 0, 1), BAD);
        due.is("n 0", x.houses(1, 0, 7, 0, 0), BAD);
        due.is("n 13", x.houses(1, 0, 7, 0, 13), BAD);
        due.is("ROW 6 is missing", x.houses(1, 0, 6, 0, 1), NULL);
        due.is("from 5 on", x.houses(1, 0, 7, 5, 1), PLACE);
    }

    private static void weights() {
        due.says(27, "WEIGHTS, n ITEMS of a ROW from i on. BAD: LEAVER, MAN, ROW, n; NULL; PLACE.");
        LeftAlone x = Due.of(TOWN);
        Due.tell(x, 17, 26, 29, 30);
        due.is("1 to 5", x.weights(0, 0, 7, 0, 1), 62);
        due.is("6", x.weights(0, 0, 7, 1, 1), 64);
        due.is("9", x.weights(0, 0, 7, 2, 1), 512);
        due.is("none", x.weights(0, 0, 7, 3, 1), 0);
        due.is("of another, all", x.weights(1, 0, 7, 0, 1), 1022);
        due.is("LEAVER 5", x.weights(5, 0, 7, 0, 1), BAD);
        due.is("MAN 3", x.weights(0, 3, 7, 0, 1), BAD);
        due.is("ROW 8", x.weights(0, 0, 8, 0, 1), BAD);
        due.is("n 0", x.weights(0, 0, 7, 0, 0), BAD);
        due.is("n 13", x.weights(0, 0, 7, 0, 13), BAD);
        due.is("ROW 6 is missing", x.weights(0, 0, 6, 0, 1), NULL);
        due.is("from 4 on", x.weights(0, 0, 7, 4, 1), PLACE);
    }

    private static void absent() {
        due.says(28, "ABSENT, n ITEMS of a ROW from i on. BAD: MAN, ROW, n; NULL; PLACE.");
        LeftAlone x = Due.of(TOWN);
        Due.tell(x, 17, 19, 18, 17, 5);
        due.is("as it is, or without 1, 2, 3, 4", x.absent(0, 7, 0, 1), 64 + 30);
        due.is("without 0", x.absent(0, 7, 1, 2), 1);
        due.is("never", x.absent(0, 7, 2, 1), 0);
        due.is("not behind two DAYS", x.absent(0, 7, 3, 2), 0);
        due.is("MAN 3", x.absent(3, 7, 0, 1), BAD);
        due.is("ROW 8", x.absent(0, 8, 0, 1), BAD);
        due.is("n 0", x.absent(0, 7, 0, 0), BAD);
        due.is("n 13", x.absent(0, 7, 0, 13), BAD);
        due.is("ROW 6 is missing", x.absent(0, 6, 0, 1), NULL);
        due.is("from 5 on", x.absent(0, 7, 5, 1), PLACE);
    }

    private static void greets() {
        due.says(29, "GREETS: how many (what = 0), the first (1; NONE). BAD; STATE: no TOWN (ahead of BAD).");
        due.is("no TOWN", new LeftAlone().greets(2), STATE);
        LeftAlone x = Due.of("d1,0;m1,0;m2,0;m3,0;m4,0;p0,1,3;");
        due.is("1 and 2, 2 and 3", x.greets(0), 2);
        due.is("the first", x.greets(1), 12);
        x.bar(1, 1);
        due.is("2 and 3", x.greets(0), 1);
        due.is("the first", x.greets(1), 23);
        x.days(1);
        due.is("3 is left today", x.greets(0), 0);
        due.is("no first one", x.greets(1), NONE);
        x.bar(1, 0);
        due.is("0 and 1, 1 and 2", x.greets(0), 2);
        due.is("the first", x.greets(1), 1);
        due.is("greets(2)", x.greets(2), BAD);
        due.is("greets(-1)", x.greets(-1), BAD);
    }

    private static void talk() {
        due.says(30, "TALK. BAD: alike, too.");
        LeftAlone x = Due.of("d1,0;m1,0;m2,0;m3,0;m4,0;p0,1,3;");
        due.is("talk(0, 3)", x.talk(0, 3), 1);
        x.bar(2, 1);
        due.is("talk(0, 3), 2 BARRED", x.talk(0, 3), 0);
        due.is("talk(3, 0), 2 BARRED", x.talk(3, 0), 0);
        due.is("talk(1, 2), himself", x.talk(1, 2), 0);
        due.is("talk(2, 3), himself", x.talk(2, 3), 0);
        due.is("talk(1, 0)", x.talk(1, 0), 1);
        due.is("talk(1, 1)", x.talk(1, 1), BAD);
        due.is("talk(0, 4)", x.talk(0, 4), BAD);
        due.is("talk(-1, 0)", x.talk(-1, 0), BAD);
    }

    private static void alone() {
        due.says(31, "ALONE. STATE: no TOWN.");
        due.is("no TOWN", new LeftAlone().alone(), STATE);
        due.is("MAN 2", Due.of(TOWN).alone(), 4);
        LeftAlone x = Due.of("d1,0;m5,0;m5,0;m4,0;p2,1,0;");
        due.is("MEN 0 and 1", x.alone(), 3);
        x.days(1);
        due.is("MAN 2 then", x.alone(), 4);
    }

    private static void likely(LeftAlone x, int man, int v, int p, int above, int below) {
        due.is("rain(" + man + ", " + v + ", " + p + ", 0)", x.rain(man, v, p, 0), above);
        due.is("rain(" + man + ", " + v + ", " + p + ", 1)", x.rain(man, v, p, 1), below);
    }

    private static void rain() {
        due.says(32, "WET: above (what = 0), below (1). BAD.");
        LeftAlone x = Due.of(TOWN);
        likely(x, 2, 60, 3, 7, 10);
        likely(x, 2, 48, 5, 1, 2);
        likely(x, 2, 47, 3, 1, 1);
        likely(x, 2, 61, 3, 0, 1);
        likely(x, 2, 60, 0, 1, 1);
        likely(x, 2, 60, 10, 0, 1);
        LeftAlone two = Due.of("d1,9;m0,5;w0,2,0;w0,2,0;");
        likely(two, 0, 8, 3, 49, 100);
        likely(two, 0, 1, 5, 1, 4);
        likely(two, 0, 8, 2, 16, 25);
        likely(two, 0, 0, 2, 1, 1);
        due.is("MAN 3", x.rain(3, 1, 1, 0), BAD);
        due.is("v -1", x.rain(2, -1, 1, 0), BAD);
        due.is("v 100", x.rain(2, 100, 1, 0), BAD);
        due.is("p -1", x.rain(2, 1, -1, 0), BAD);
        due.is("p 11", x.rain(2, 1, 11, 0), BAD);
        due.is("what 2", x.rain(2, 1, 1, 2), BAD);
    }

    private static void drawn() {
        due.says(33, "YEARS by a SEED (1 to 999999): FEELS (what = 0), on how many (1). BAD; STATE: no TOWN (ahead of BAD).");
        due.is("no TOWN", new LeftAlone().drawn(-1, 0, 2), STATE);
        LeftAlone x = Due.of("d1,0;m0,0;m5,9;p1,9,0;");
        // 1 becomes 16807, which 4 does not part; 4 becomes 67228, then 1129900996: both to house 0.
        due.is("not SENT", x.drawn(1, 1, 0), 4);
        due.is("not SENT, USED", x.drawn(1, 1, 1), 1);
        due.is("SENT", x.drawn(1, 4, 0), 13);
        due.is("SENT, not USED", x.drawn(1, 4, 1), 0);
        due.is("two DAYS", x.drawn(2, 4, 0), 21);
        due.is("no DAY", x.drawn(0, 4, 0), 5);
        due.is("no DAY, none USED", x.drawn(0, 4, 1), 0);
        due.is("nobody is SENT in five DAYS", Due.of(TOWN).drawn(5, 1, 0), 134);
        due.is("on each of them one is USED", Due.of(TOWN).drawn(5, 1, 1), 5);
        due.is("n -1", x.drawn(-1, 1, 0), BAD);
        due.is("n 61", x.drawn(61, 1, 0), BAD);
        due.is("SEED 0", x.drawn(1, 0, 0), BAD);
        due.is("SEED 1000000", x.drawn(1, 1000000, 0), BAD);
        due.is("what 2", x.drawn(1, 1, 2), BAD);
    }

    private static void image() {
        due.says(34, "An IMAGE (0, 1) is kept of the TOWN: 1. BAD; STATE: no TOWN.");
        LeftAlone x = new LeftAlone();
        due.is("no TOWN", x.image(0), STATE);
        due.is("no TOWN, image(2)", x.image(2), BAD);
        Due.read(x, TOWN);
        due.is("image(0)", x.image(0), 1);
        x.days(1);
        due.is("image(1)", x.image(1), 1);
        due.is("no ACT", x.count(6), 1);
        due.is("image(2)", x.image(2), BAD);
        due.is("image(-1)", x.image(-1), BAD);
    }

    private static void restore() {
        due.says(35, "The TOWN is as an IMAGE kept it (no ACT can be undone then): 1. BAD; STATE: none was kept.");
        LeftAlone x = Due.of(TOWN);
        due.is("none was kept", x.restore(0), STATE);
        x.days(1);
        x.bar(0, 1);
        x.image(0);
        x.days(3);
        x.bar(0, 0);
        x.send(1, 2);
        due.is("restore(0)", x.restore(0), 1);
        felt("as it was", x, 17, 18, 60);
        due.is("DAY", x.count(3), 1);
        due.is("BARRED", x.count(5), 1);
        due.is("HOUSE", x.leaver(1, 0), 1);
        due.is("no ACT", x.undo(), STATE);
        due.is("it goes on", x.days(2), 105);
        due.is("restore(1)", x.restore(1), STATE);
        due.is("restore(2)", x.restore(2), BAD);
        due.is("restore(-1)", x.restore(-1), BAD);
    }

    private static void kind() {
        due.says(36, "The KIND of a LEAVER, as told (1 to 5). BAD.");
        LeftAlone x = Due.of(TOWN);
        int[] told = {2, 1, 3, 4, 5, BAD};
        for (int one = 0; one < told.length; one++) {
            due.is("kind(" + one + ")", x.kind(one), told[one]);
        }
        due.is("kind(-1)", x.kind(-1), BAD);
    }

    private static void as() {
        due.says(37, "A LEAVER is taken as one of a KIND (0 .. 5): its number. BAD; KIND: it is no such one.");
        LeftAlone x = Due.of(TOWN);
        String[] is = {"012", "01", "013", "04", "045"};
        for (int one = 0; one < is.length; one++) {
            for (int kind = 0; kind <= 5; kind++) {
                boolean so = is[one].indexOf('0' + kind) >= 0;
                due.is("as(" + one + ", " + kind + ")", x.as(one, kind), so ? one : KIND);
            }
        }
        due.is("as(5, 0)", x.as(5, 0), BAD);
        due.is("as(0, 6)", x.as(0, 6), BAD);
        due.is("as(0, -1)", x.as(0, -1), BAD);
    }

    private static void asked(LeftAlone x, int one, int what, int want, int... bodies) {
        String ask = "ask(" + one + ", " + what + ")";
        due.is(ask, x.ask(one, what), want);
        for (int i = 0; i < bodies.length; i++) {
            due.is(ask + ", trace(" + i + ")", x.trace(i), bodies[i]);
        }
        due.is(ask + ", behind THE TRACE", x.trace(bodies.length), NONE);
    }

    private static void ask() {
        due.says(38, "An ASK (0, 1) of a LEAVER. BAD. THE TRACE is empty ahead of it.");
        LeftAlone x = Due.of(TOWN);
        asked(x, 0, 0, -12, 12, 11, 10, 24, 21, 20);
        asked(x, 0, 1, 8, 24, 21, 20);
        asked(x, 1, 0, 13, 11, 10, 21, 20);
        asked(x, 1, 1, 7, 21, 20);
        asked(x, 2, 0, -985, 11, 10, 22, 21, 20);
        asked(x, 2, 1, -994, 22, 21, 20);
        asked(x, 3, 0, -95, 13, 10);
        asked(x, 3, 1, 98, 23, 20, 13, 10);
        asked(x, 4, 0, -194, 14, 13, 10);
        asked(x, 4, 1, 198, 23, 20, 14, 13, 10);
        due.is("ask(5, 0)", x.ask(5, 0), BAD);
        due.is("ask(0, 2)", x.ask(0, 2), BAD);
        due.is("ask(0, -1)", x.ask(0, -1), BAD);
    }

    private static void trace() {
        due.says(39, "Number i of THE TRACE; NONE.");
        LeftAlone x = Due.of(TOWN);
        due.is("no ask yet", x.trace(0), NONE);
        x.ask(3, 0);
        due.is("trace(0)", x.trace(0), 13);
        due.is("trace(1)", x.trace(1), 10);
        due.is("trace(2)", x.trace(2), NONE);
        due.is("trace(-1)", x.trace(-1), NONE);
        due.is("trace(16)", x.trace(16), NONE);
    }

    private static void count() {
        due.says(40, "How many: 0 ROWS, 1 MEN, 2 LEAVERS, 3 DAY, 4 FEELS of all MEN, 5 who is BARRED (bits), 6 ACTS that can be undone, 7 bytes on the tape. BAD.");
        LeftAlone x = Due.of(TOWN);
        x.row(3, 0, 0);
        x.row(6, 2, 9);
        x.days(3);
        x.bar(2, 1);
        x.feed('d');
        int[] told = {2, 3, 5, 3, 105, 4, 4, 1};
        for (int what = 0; what < told.length; what++) {
            due.is("count(" + what + ")", x.count(what), told[what]);
        }
        due.is("count(8)", x.count(8), BAD);
        due.is("count(-1)", x.count(-1), BAD);
        x.days(24);
        due.is("24 ACTS at most", x.count(6), 24);
    }

    private static void status() {
        due.says(41, "Of the latest call with a ROW, or as(), that was not BAD, STATE, FULL: the number of its FINDING; 0: it had none, or there was none.");
        LeftAlone x = Due.of(TOWN);
        due.is("there was none", x.status(), 0);
        x.set(0, 0, 0);
        due.is("NULL", x.status(), 1);
        x.row(0, 0, 41);
        due.is("BAD leaves it", x.status(), 1);
        x.days(1);
        due.is("no ROW", x.status(), 1);
        x.row(0, 0, 1);
        due.is("none", x.status(), 0);
        x.absent(0, 0, 1, 1);
        due.is("PLACE", x.status(), 2);
        x.as(0, 5);
        due.is("KIND", x.status(), 3);
        x.row(0, 0, -1);
        due.is("SIZE", x.status(), 4);
        x.row(1, 1, 1);
        x.copy(0, 0, 1, 0, 1);
        due.is("STORE", x.status(), 5);
        x.as(0, 2);
        due.is("none of as()", x.status(), 0);
    }
}
