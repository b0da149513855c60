/** Promises 9 to 16: ACTS, how they are undone, and what LEAVERS and MEN are. */
public final class DaysTest {
    private static final Due due = new Due("DaysTest");

    public static void main(String[] args) {
        refusals();
        makes();
        feels();
        away();
        sends();
        changes();
        undone();
        forgotten();
        lastDay();
        due.end();
    }

    private static void refusals() {
        LeftAlone none = new LeftAlone();
        due.is("days(0), no TOWN", none.days(0), LeftAlone.STATE);
        due.is("send, no TOWN", none.send(0, 0), LeftAlone.BAD);
        due.is("undo, no TOWN", none.undo(), LeftAlone.STATE);
        LeftAlone x = Due.of("d1,0;m5,0;m6,0;p0,1,0;");
        int[][] calls = {
            {x.days(0)}, {x.days(25)}, {x.days(-1)}, {x.send(-1, 0)}, {x.send(1, 0)}, {x.send(0, -1)},
            {x.send(0, 2)}, {x.weight(-1, 1)}, {x.weight(1, 1)}, {x.weight(0, 0)}, {x.weight(0, 10)},
            {x.bar(-1, 1)}, {x.bar(2, 1)}, {x.bar(0, -1)}, {x.bar(0, 2)}, {x.patience(-1, 0)},
            {x.patience(2, 0)}, {x.patience(0, -1)}, {x.patience(0, 10)}, {x.leaver(-1, 0)},
            {x.leaver(1, 0)}, {x.leaver(0, -1)}, {x.leaver(0, 6)}, {x.man(-1, 0)}, {x.man(2, 0)},
            {x.man(0, -1)}, {x.man(0, 5)}};
        for (int i = 0; i < calls.length; i++) {
            due.is("refusal " + i, calls[i][0], LeftAlone.BAD);
        }
        due.is("no ACT of it", x.count(6), 0);
    }

    /** One LEAVER alone with one MAN: what he MAKES felt on DAYS 0, 1, .. */
    private static void made(String law, String leaver, int... want) {
        LeftAlone x = Due.of(law + "m0,0;" + leaver);
        for (int day = 0; day < want.length; day++) {
            due.is(leaver + " by " + law + " on " + day, x.leaver(0, 4), want[day]);
            due.is(leaver + " felt on " + day, x.man(0, 4), want[day]);
            x.days(1);
        }
    }

    private static void makes() {
        made("d1,9;", "p0,7,0;", 7, 7, 7, 7);
        made("d1,0;", "f0,2,3;", 2, 3, 4, 5, 6, 7, 8, 9, 10, 11, 11, 11);
        made("d1,9;", "s0,9,0;", 4, 4, 4);
        made("d1,9;", "s0,1,0;", 0, 0);
        made("d1,9;", "i0,5,0;", 5, 0, 0, 5, 0, 0, 5);
        // 7 times DAY by 10 leaves 0 7 4 1 8 5 2 9 6 3 0.
        made("d1,0;", "w0,5,0;", 5, 0, 0, 5, 0, 0, 5);
        made("d1,1;", "w0,5,0;", 10, 0, 0, 5, 0, 0, 5, 0, 0, 5, 10);
        made("d1,4;", "w0,5,0;", 10, 0, 0, 10, 0, 0, 10, 0, 0, 10, 10);
        made("d1,5;", "w0,5,0;", 10, 0, 10, 10, 0, 0, 10, 0, 0, 10, 10);
        made("d1,9;", "w0,5,0;", 10, 10, 10, 10, 10, 10, 10, 0, 10, 10);
    }

    private static void feels() {
        LeftAlone x = Due.of("d3,0;m50,4;m2,0;m60,5;p0,5,0;p2,5,0;");
        due.is("FEELS 55, 1, 57", x.days(1), 55 + 1 + 57);
        due.is("more than PATIENCE", x.man(0, 0), 55);
        due.is("nobody away", x.man(1, 0), 1);
        due.is("as much as PATIENCE: USED", x.man(2, 0), 57);
        due.is("days(2)", x.days(2), 65 + 0 + 51);
        due.is("not below 0", x.man(1, 0), 0);
        x.days(20);
        due.is("not above 99", x.man(0, 0), 99);
        due.is("USED not below 0", x.man(2, 0), 0);
        LeftAlone y = Due.of("d9,0;m60,8;m30,9;s0,9,0;p0,5,0;s1,1,0;");
        due.is("4 and 5 together", y.man(0, 4), 9);
        due.is("who they are", y.man(0, 3), 3);
        due.is("one who makes nothing is away, too", y.man(1, 3), 4);
        due.is("60 and 9; 30 less 9", y.days(1), 69 + 21);
    }

    private static void away() {
        LeftAlone x = Due.of("d1,0;m0,0;m0,0;m0,0;f1,1,2;p0,1,4;");
        int[] first = {1, 0, 2, 1, 0, 2, 1};
        int[] times = {0, 0, 0, 1, 1, 1, 2};
        for (int day = 0; day < first.length; day++) {
            due.is("house on " + day, x.leaver(0, 3), first[day]);
            due.is("times on " + day, x.leaver(0, 5), times[day]);
            due.is("felt on " + day, x.leaver(0, 4), 1 + times[day]);
            due.is("HOUSE on " + day, x.leaver(0, 0), 1);
            due.is("PACE 4 by 3 on " + day, x.leaver(1, 3), day % 3);
            due.is("bits", x.man(first[day], 3), first[day] == day % 3 ? 3 : 1);
            x.days(1);
        }
    }

    private static void sends() {
        LeftAlone x = Due.of("d1,0;m0,0;m0,0;f0,1,0;");
        x.days(5);
        due.is("times", x.leaver(0, 5), 5);
        due.is("send(0, 1)", x.send(0, 1), 0);
        due.is("HOUSE", x.leaver(0, 0), 1);
        due.is("times anew", x.leaver(0, 5), 0);
        due.is("felt anew", x.leaver(0, 4), 1);
        x.days(1);
        due.is("send(0, 0)", x.send(0, 0), 1);
        due.is("he was away from none since", x.leaver(0, 5), 0);
        due.is("PATIENCE, DAY stay", x.count(3), 6);
        due.is("ACTS", x.count(6), 8);
        x.days(2);
        due.is("send to the house that he has", x.send(0, 0), 0);
        due.is("it is an ACT", x.count(6), 11);
        due.is("away from none since", x.leaver(0, 5), 0);
        due.is("undo", x.undo(), 10);
        due.is("times again", x.leaver(0, 5), 2);
    }

    private static void changes() {
        LeftAlone x = Due.of("d1,0;m0,3;m0,4;f0,1,0;");
        x.days(2);
        due.is("weight(0, 9)", x.weight(0, 9), 1);
        due.is("WEIGHT", x.leaver(0, 1), 9);
        due.is("times stay", x.leaver(0, 5), 2);
        due.is("felt", x.leaver(0, 4), 11);
        due.is("patience(1, 0)", x.patience(1, 0), 4);
        due.is("patience(1, 9)", x.patience(1, 9), 0);
        due.is("PATIENCE", x.man(1, 1), 9);
        due.is("bar(1, 0): it is so", x.bar(1, 0), LeftAlone.STATE);
        due.is("bar(1, 1)", x.bar(1, 1), 2);
        due.is("bar(1, 1) again", x.bar(1, 1), LeftAlone.STATE);
        due.is("bar(0, 1)", x.bar(0, 1), 3);
        due.is("man(0, 2)", x.man(0, 2), 1);
        due.is("count(5)", x.count(5), 3);
        due.is("bar(1, 0)", x.bar(1, 0), 1);
        due.is("man(1, 2)", x.man(1, 2), 0);
        due.is("ACTS", x.count(6), 8);
    }

    private static void undone() {
        LeftAlone x = Due.of("d2,3;m10,4;m5,1;p0,5,0;f1,2,1;");
        x.days(3);
        int felt = x.count(4);
        int times = x.leaver(1, 5);
        x.send(1, 0);
        x.weight(0, 1);
        x.bar(0, 1);
        x.patience(0, 9);
        x.days(1);
        due.is("undo a DAY", x.undo(), 7);
        due.is("DAY", x.count(3), 3);
        due.is("FEELS", x.count(4), felt);
        due.is("undo PATIENCE", x.undo(), 6);
        due.is("PATIENCE", x.man(0, 1), 4);
        due.is("undo BARRED", x.undo(), 5);
        due.is("BARRED", x.count(5), 0);
        due.is("undo WEIGHT", x.undo(), 4);
        due.is("WEIGHT", x.leaver(0, 1), 5);
        due.is("undo SENT", x.undo(), 3);
        due.is("HOUSE", x.leaver(1, 0), 1);
        due.is("times", x.leaver(1, 5), times);
        due.is("undo", x.undo(), 2);
        due.is("undo", x.undo(), 1);
        due.is("undo", x.undo(), 0);
        due.is("DAY 0", x.count(3), 0);
        due.is("FEELS at first", x.count(4), 15);
        due.is("times at first", x.leaver(1, 5), 0);
        due.is("undo: none", x.undo(), LeftAlone.STATE);
    }

    private static void forgotten() {
        LeftAlone x = Due.of("d1,0;m0,9;p0,1,0;");
        x.weight(0, 2);
        x.weight(0, 3);
        x.days(24);
        due.is("24 at most", x.count(6), 24);
        x.weight(0, 4);
        due.is("24 at most", x.count(6), 24);
        for (int left = 23; left >= 0; left--) {
            due.is("undo", x.undo(), left);
        }
        due.is("undo: forgotten", x.undo(), LeftAlone.STATE);
        due.is("DAY 1", x.count(3), 1);
        due.is("WEIGHT 3", x.leaver(0, 1), 3);
    }

    private static void lastDay() {
        LeftAlone x = Due.of("d1,0;m0,9;p0,1,0;");
        for (int i = 0; i < 41; i++) {
            x.days(24);
        }
        due.is("DAY 984", x.count(3), 984);
        due.is("days(16): FULL", x.days(16), LeftAlone.FULL);
        due.is("days(25): BAD ahead of FULL", x.days(25), LeftAlone.BAD);
        due.is("days(15)", x.days(15), 0);
        due.is("DAY 999", x.count(3), 999);
        due.is("days(1): FULL", x.days(1), LeftAlone.FULL);
        due.is("DAY stays", x.count(3), 999);
        due.is("foretold yet", x.ahead(0, 60), 0);
        x.undo();
        due.is("days(1) again", x.days(1), 0);
    }
}
