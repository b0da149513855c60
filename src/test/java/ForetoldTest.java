/** Promises 17 to 35, by cases worked out by hand. */
public final class ForetoldTest {
    private static final int NULL = -1000011, PLACE = -1000012;
    private static final int NONE = LeftAlone.NONE, BAD = LeftAlone.BAD, STATE = LeftAlone.STATE;
    private static final Due due = new Due("ForetoldTest");

    public static void main(String[] args) {
        noTown();
        refusals();
        aheadAndReach();
        awayAndFirst();
        usual();
        fewest();
        bestHouse();
        tells();
        kindsByRow();
        housesByRow();
        weightsByRow();
        absentByRow();
        rowRefusals();
        greetsAndTalk();
        alone();
        rain();
        drawn();
        images();
        due.end();
    }

    private static void noTown() {
        LeftAlone x = new LeftAlone();
        due.is("fewest", x.fewest(-1, 0, 0, 9), STATE);
        due.is("tells", x.tells(0, 9), STATE);
        due.is("greets", x.greets(9), STATE);
        due.is("alone", x.alone(), STATE);
        due.is("drawn", x.drawn(-1, 0, 9), STATE);
        due.is("image(0)", x.image(0), STATE);
        due.is("image(-1)", x.image(-1), BAD);
        due.is("restore(1)", x.restore(1), STATE);
        due.is("restore(-1)", x.restore(-1), BAD);
        due.is("who", x.who(0, 0, 0, 0, 1), BAD);
        due.is("status()", x.status(), 0);
    }

    private static void refusals() {
        LeftAlone x = Due.of("d1,0;m5,0;m6,0;p0,1,0;");
        long[] calls = {
            x.ahead(-1, 0), x.ahead(2, 0), x.ahead(0, -1), x.ahead(0, 61),
            x.awayAhead(-1, 0), x.awayAhead(2, 0), x.awayAhead(0, -1), x.awayAhead(0, 61),
            x.first(-1), x.first(2),
            x.reach(-1, 1), x.reach(2, 1), x.reach(0, 0), x.reach(0, 100),
            x.usual(-1, 1), x.usual(2, 1), x.usual(0, 0), x.usual(0, 61),
            x.fewest(-1, 1, 1, 0), x.fewest(4, 1, 1, 0), x.fewest(3, 0, 1, 0), x.fewest(3, 31, 1, 0),
            x.fewest(3, 1, 0, 0), x.fewest(3, 1, 100, 0), x.fewest(3, 1, 1, -1), x.fewest(3, 1, 1, 2),
            x.bestHouse(-1, 1, 0), x.bestHouse(1, 1, 0), x.bestHouse(0, 0, 0), x.bestHouse(0, 61, 0),
            x.bestHouse(0, 1, -1), x.bestHouse(0, 1, 2),
            x.tells(0, 0), x.tells(61, 0), x.tells(1, -1), x.tells(1, 2),
            x.greets(-1), x.greets(2),
            x.talk(-1, 0), x.talk(0, -1), x.talk(2, 0), x.talk(0, 2), x.talk(1, 1),
            x.rain(-1, 0, 0, 0), x.rain(2, 0, 0, 0), x.rain(0, -1, 0, 0), x.rain(0, 100, 0, 0),
            x.rain(0, 0, -1, 0), x.rain(0, 0, 11, 0), x.rain(0, 0, 0, -1), x.rain(0, 0, 0, 2),
            x.drawn(-1, 1, 0), x.drawn(61, 1, 0), x.drawn(0, 0, 0), x.drawn(0, 1000000, 0),
            x.drawn(0, 1, -1), x.drawn(0, 1, 2),
            x.image(-1), x.image(2), x.restore(-1), x.restore(2)};
        for (int i = 0; i < calls.length; i++) {
            due.is("refusal " + i, calls[i], BAD);
        }
    }

    private static void aheadAndReach() {
        LeftAlone x = Due.of("d2,0;m10,3;m5,0;f0,1,0;");
        // 1, 2, 3 are not more than PATIENCE: 10, 8, 6, 4; then 4, 5, 6, .. 10, and 10 for ever.
        int[] felt = {10, 8, 6, 4, 8, 13, 19, 26, 34, 43, 53, 63, 73, 83, 93, 99, 99};
        for (int n = 0; n < felt.length; n++) {
            due.is("ahead(0, " + n + ")", x.ahead(0, n), felt[n]);
        }
        due.is("ahead(0, 60)", x.ahead(0, 60), 99);
        due.is("ahead(1, 4)", x.ahead(1, 4), 1);
        due.is("ahead(1, 60)", x.ahead(1, 60), 0);
        due.is("reach(0, 1): now", x.reach(0, 1), 0);
        due.is("reach(0, 10): now", x.reach(0, 10), 0);
        due.is("reach(0, 11)", x.reach(0, 11), 5);
        due.is("reach(0, 99)", x.reach(0, 99), 15);
        due.is("reach(1, 5)", x.reach(1, 5), 0);
        due.is("reach(1, 6)", x.reach(1, 6), NONE);
        due.is("DAY stays", x.count(3), 0);
        due.is("times stay", x.leaver(0, 5), 0);
        due.is("no ACT", x.count(6), 0);
        // 1 felt each DAY: behind DAY 60, and no later.
        LeftAlone y = Due.of("d1,0;m0,0;p0,1,0;");
        due.is("reach(0, 60)", y.reach(0, 60), 60);
        due.is("reach(0, 61)", y.reach(0, 61), NONE);
    }

    private static void awayAndFirst() {
        LeftAlone x = Due.of("d1,0;m0,0;m0,0;m0,0;p0,1,1;p1,1,1;");
        int[] away0 = {1, 0, 2, 1, 0, 2};
        for (int n = 0; n < away0.length; n++) {
            due.is("awayAhead(0, " + n + ")", x.awayAhead(0, n), away0[n]);
        }
        due.is("awayAhead(0, 60)", x.awayAhead(0, 60), 1);
        due.is("first(0)", x.first(0), 2);
        due.is("first(1)", x.first(1), 3);
        due.is("first(2): today", x.first(2), 1);
        x.days(1);
        due.is("first(0) on DAY 1", x.first(0), 1);
        due.is("awayAhead(0, 0) on DAY 1", x.awayAhead(0, 0), 0);
        LeftAlone y = Due.of("d1,0;m0,0;s0,1,4;");
        due.is("first: never", y.first(0), NONE);
        LeftAlone z = Due.of("d1,0;m0,0;m0,0;p0,1,0;p1,1,1;");
        due.is("first(1)", z.first(1), 2);
        due.is("first(0)", z.first(0), NONE);
    }

    private static void usual() {
        LeftAlone x = Due.of("d1,0;m0,3;m0,9;m0,0;f0,1,0;i1,9,0;");
        due.is("usual(0, 60)", x.usual(0, 60), 3);
        due.is("usual(0, 2)", x.usual(0, 2), 2);
        due.is("usual(1, 7)", x.usual(1, 7), 7);
        due.is("usual(2, 60): nobody away", x.usual(2, 60), 0);
        due.is("usual(0, 1)", x.usual(0, 1), 1);
    }

    private static void fewest() {
        LeftAlone x = Due.of("d1,0;m0,0;m0,0;p0,2,0;p0,4,0;p1,3,0;p0,6,0;");
        due.is("none told", x.fewest(0, 1, 1, 0), 0);
        due.is("none told: which", x.fewest(0, 1, 1, 1), 0);
        due.is("MAN 0 by one", x.fewest(1, 1, 2, 1), 1);
        due.is("MAN 0 by 4 or more", x.fewest(1, 1, 4, 1), 2);
        due.is("MAN 0 by 6 or more: one", x.fewest(1, 1, 6, 0), 1);
        due.is("MAN 0 by 6 or more: which", x.fewest(1, 1, 6, 1), 8);
        due.is("MAN 0 by 7 or more", x.fewest(1, 1, 7, 0), 2);
        due.is("MAN 0 by 7 or more: which", x.fewest(1, 1, 7, 1), 9);
        due.is("both by 3", x.fewest(3, 1, 3, 1), 6);
        due.is("both by 12 behind 4 DAYS", x.fewest(3, 4, 12, 1), 6);
        due.is("MAN 0 by 13", x.fewest(1, 1, 13, 0), NONE);
        due.is("MAN 0 by 13: which", x.fewest(1, 1, 13, 1), NONE);
        // LEAVER 0 alone makes him USED, and less than nobody does.
        LeftAlone y = Due.of("d9,0;m40,9;p0,1,0;");
        due.is("by nobody", y.fewest(1, 30, 10, 0), 0);
        due.is("by nobody: which", y.fewest(1, 30, 10, 1), 0);
        due.is("no more", y.fewest(1, 30, 11, 0), NONE);
    }

    private static void bestHouse() {
        LeftAlone x = Due.of("d1,0;m9,9;m9,3;m9,3;p0,4,0;");
        due.is("which", x.bestHouse(0, 1, 0), 1);
        due.is("how much", x.bestHouse(0, 1, 1), 8 + 13 + 8);
        due.is("how much behind 2", x.bestHouse(0, 2, 1), 7 + 17 + 7);
        due.is("HOUSE stays", x.leaver(0, 0), 0);
        LeftAlone y = Due.of("d1,0;m0,9;m0,9;m0,9;p2,1,0;");
        due.is("all alike: the first", y.bestHouse(0, 60, 0), 0);
        due.is("nothing", y.bestHouse(0, 60, 1), 0);
        // SENT to the house that he has, a faithful one begins anew, too.
        LeftAlone z = Due.of("d1,0;m0,0;f0,1,0;");
        z.days(3);
        due.is("FEELS 6", z.count(4), 6);
        due.is("anew", z.bestHouse(0, 2, 1), 6 + 1 + 2);
        due.is("not anew", z.ahead(0, 2), 6 + 4 + 5);
    }

    private static void tells() {
        LeftAlone x = Due.of("d5,0;m20,0;m20,4;p0,2,0;p1,3,0;p1,2,0;");
        // all: 22, 25; without 0: 19, 25; without 1: 22, 15; without 2: 22, 15.
        due.is("who", x.tells(1, 0), 1);
        due.is("by how much", x.tells(1, 1), 1010);
        // One who makes a MAN USED tells less than nothing.
        LeftAlone y = Due.of("d5,0;m20,9;p0,2,0;");
        due.is("who", y.tells(1, 0), 0);
        due.is("less than nothing", y.tells(1, 1), 996);
        due.is("in 3 DAYS", y.tells(3, 1), 1000 - 12);
    }

    private static void kindsByRow() {
        LeftAlone x = Due.of("d1,5;m10,0;f0,4,0;");
        // DAYS 0 .. 2: p 4 4 4; f 4 5 6; s 2 2 2; i 4 0 0; w 8 0 8.
        Due.tell(x, 14, 18, 22);
        due.is("p", x.who(0, 0, 7, 0, 3), 1 << 1);
        due.is("behind one: p, f, i", x.who(0, 0, 7, 0, 1), 1 << 1 | 1 << 2 | 1 << 4);
        Due.tell(x, 14, 19, 25);
        due.is("f", x.who(0, 0, 7, 0, 3), 1 << 2);
        Due.tell(x, 0, 12, 14, 16);
        due.is("s from 1 on", x.who(0, 0, 7, 1, 3), 1 << 3);
        Due.tell(x, 14, 13, 12);
        due.is("i", x.who(0, 0, 7, 0, 3), 1 << 4);
        Due.tell(x, 18, 17, 25);
        due.is("w", x.who(0, 0, 7, 0, 3), 1 << 5);
        Due.tell(x, 18, 17, 24);
        due.is("none", x.who(0, 0, 7, 0, 3), 0);
        due.is("status()", x.status(), 0);
        due.is("KIND stays", x.kind(0), 2);
        // The times that he was away are kept for each KIND.
        LeftAlone y = Due.of("d1,0;m0,0;p0,4,0;");
        y.days(2);
        Due.tell(y, 8 + 4 + 2);
        due.is("f, 2 times away", y.who(0, 0, 7, 0, 1), 1 << 2);
    }

    private static void housesByRow() {
        LeftAlone x = Due.of("d1,0;m10,0;m10,0;m10,0;f0,4,1;");
        Due.tell(x, 14, 13, 12, 17);
        due.is("0", x.houses(0, 0, 7, 0, 4), 1);
        Due.tell(x, 9, 8, 12);
        due.is("1", x.houses(0, 0, 7, 0, 3), 2);
        due.is("1 and 2", x.houses(0, 0, 7, 0, 1), 6);
        Due.tell(x, 1);
        due.is("none", x.houses(0, 0, 7, 0, 1), 0);
        // SENT now, he was away from none, in the house that he has, too.
        LeftAlone y = Due.of("d1,0;m0,0;f0,4,0;");
        y.days(1);
        Due.tell(y, 9);
        due.is("not by 5", y.houses(0, 0, 7, 0, 1), 0);
        Due.tell(y, 8);
        due.is("by 4", y.houses(0, 0, 7, 0, 1), 1);
        due.is("times stay", y.leaver(0, 5), 1);
    }

    private static void weightsByRow() {
        LeftAlone x = Due.of("d1,0;m10,0;s0,4,0;");
        Due.tell(x, 12, 14);
        due.is("4 and 5", x.weights(0, 0, 7, 0, 2), 1 << 4 | 1 << 5);
        Due.tell(x, 9, 8);
        due.is("1", x.weights(0, 0, 7, 0, 2), 2);
        due.is("WEIGHT stays", x.leaver(0, 1), 4);
        LeftAlone y = Due.of("d1,0;m10,9;p0,4,0;");
        Due.tell(y, 9);
        due.is("all", y.weights(0, 0, 7, 0, 1), 0b1111111110);
        Due.tell(y, 9, 8, 7, 6, 5, 4, 3, 2, 1, 0, 0, 0);
        due.is("all, 12 DAYS", y.weights(0, 0, 7, 0, 12), 0b1111111110);
    }

    private static void absentByRow() {
        LeftAlone x = Due.of("d1,0;m10,0;p0,4,0;p0,4,0;p0,3,0;");
        Due.tell(x, 21, 32);
        due.is("as it is", x.absent(0, 7, 0, 2), 64);
        Due.tell(x, 17, 24);
        due.is("0 or 1", x.absent(0, 7, 0, 2), 3);
        Due.tell(x, 18, 26);
        due.is("2", x.absent(0, 7, 0, 2), 4);
        Due.tell(x, 18, 27);
        due.is("none", x.absent(0, 7, 0, 2), 0);
        LeftAlone y = Due.of("d1,0;m10,9;m0,0;p1,4,0;p0,3,0;");
        Due.tell(y, 9);
        due.is("all", y.absent(0, 7, 0, 1), 64 + 3);
    }

    private static void rowRefusals() {
        LeftAlone x = Due.of("d1,0;m0,0;m0,0;p0,1,0;");
        x.row(1, 2, 40);
        x.row(2, 0, 3);
        int[] bad = {
            x.who(-1, 0, 1, 0, 1), x.who(1, 0, 1, 0, 1), x.who(0, -1, 1, 0, 1), x.who(0, 2, 1, 0, 1),
            x.who(0, 0, -1, 0, 1), x.who(0, 0, 8, 0, 1), x.who(0, 0, 1, 0, 0), x.who(0, 0, 1, 0, 13),
            x.houses(-1, 0, 1, 0, 1), x.houses(1, 0, 1, 0, 1), x.houses(0, 2, 1, 0, 1),
            x.houses(0, 0, 8, 0, 1), x.houses(0, 0, 1, 0, 0), x.houses(0, 0, 1, 0, 13),
            x.weights(-1, 0, 1, 0, 1), x.weights(1, 0, 1, 0, 1), x.weights(0, 2, 1, 0, 1),
            x.weights(0, 0, 8, 0, 1), x.weights(0, 0, 1, 0, 0), x.weights(0, 0, 1, 0, 13),
            x.absent(-1, 1, 0, 1), x.absent(2, 1, 0, 1), x.absent(0, -1, 0, 1), x.absent(0, 8, 0, 1),
            x.absent(0, 1, 0, 0), x.absent(0, 1, 0, 13), x.absent(0, 0, -1, 13), x.who(0, 0, 3, 0, 13)};
        for (int i = 0; i < bad.length; i++) {
            due.is("BAD " + i, bad[i], BAD);
        }
        due.is("status()", x.status(), 0);
        int[] missing = {x.who(0, 0, 0, 0, 1), x.houses(0, 0, 0, -1, 1), x.weights(0, 0, 0, 0, 1),
            x.absent(0, 0, 99, 1)};
        for (int i = 0; i < missing.length; i++) {
            due.is("NULL " + i, missing[i], NULL);
        }
        due.is("status()", x.status(), 1);
        int[] place = {x.who(0, 0, 2, 3, 1), x.who(0, 0, 2, -1, 1), x.who(0, 0, 2, 0, 4),
            x.houses(0, 0, 2, 2, 2), x.weights(0, 0, 2, Integer.MAX_VALUE, 2), x.absent(0, 1, 29, 12),
            x.absent(0, 2, Integer.MIN_VALUE, 1)};
        for (int i = 0; i < place.length; i++) {
            due.is("PLACE " + i, place[i], PLACE);
        }
        due.is("status()", x.status(), 2);
        due.is("at the end: so without LEAVER 0", x.absent(0, 1, 28, 12), 1);
        due.is("status()", x.status(), 0);
    }

    private static void greetsAndTalk() {
        LeftAlone x = Due.of("d1,0;m0,0;m0,0;m0,0;m0,0;m0,0;p0,1,1;");
        due.is("greets(0)", x.greets(0), 3);
        due.is("greets(1)", x.greets(1), 12);
        x.days(1);
        due.is("greets(0) on DAY 1", x.greets(0), 2);
        due.is("greets(1) on DAY 1", x.greets(1), 23);
        x.bar(3, 1);
        due.is("greets(0), BARRED", x.greets(0), 0);
        due.is("greets(1), BARRED", x.greets(1), NONE);
        due.is("talk(0, 2)", x.talk(0, 2), 1);
        due.is("talk(0, 3)", x.talk(0, 3), 0);
        due.is("talk(3, 4): himself", x.talk(3, 4), 0);
        due.is("talk(4, 3)", x.talk(4, 3), 0);
        due.is("talk(4, 2): between", x.talk(4, 2), 0);
        due.is("talk(2, 0)", x.talk(2, 0), 1);
        x.bar(3, 0);
        due.is("talk(4, 0)", x.talk(4, 0), 1);
        due.is("greets(1)", x.greets(1), 23);
    }

    private static void alone() {
        due.is("one", Due.of("d1,0;m3,0;m5,0;m4,0;p0,1,0;").alone(), 2);
        due.is("two", Due.of("d1,0;m5,0;m3,0;m5,0;p0,1,0;").alone(), 5);
        due.is("all, nothing", Due.of("d1,0;m0,0;m0,0;p0,1,0;").alone(), 3);
    }

    private static void fraction(LeftAlone x, int man, int v, int p, long above, long below) {
        String call = "rain(" + man + ", " + v + ", " + p;
        due.is(call + ", 0)", x.rain(man, v, p, 0), above);
        due.is(call + ", 1)", x.rain(man, v, p, 1), below);
    }

    private static void rain() {
        // On DAY 0 by RAIN 9 LEAVERS in the wet make 2, 2, 4 felt; the idle one is never sent home.
        LeftAlone x = Due.of("d3,9;m10,0;m20,0;w0,1,0;w0,1,0;w0,2,0;i1,1,0;");
        fraction(x, 0, 18, 5, 1, 8);
        fraction(x, 0, 19, 5, 0, 1);
        fraction(x, 0, 0, 5, 1, 1);
        fraction(x, 0, 9, 3, 1, 1);
        fraction(x, 0, 12, 3, 1000 - 27, 1000);
        // 14 or more: the third, or both others.
        fraction(x, 0, 14, 3, 847, 1000);
        fraction(x, 0, 14, 0, 1, 1);
        fraction(x, 0, 14, 10, 0, 1);
        fraction(x, 0, 10, 10, 0, 1);
        fraction(x, 1, 21, 7, 1, 1);
        fraction(x, 1, 22, 7, 0, 1);
        // Without RAIN the ones in the wet are sent home, too; and FEELS falls by USED with one.
        LeftAlone y = Due.of("d3,0;m10,9;w0,9,0;");
        y.days(1);
        due.is("FEELS 7", y.count(4), 7);
        fraction(y, 0, 5, 4, 2, 5);
        due.is("no ACT", y.count(6), 1);
        // All six: the least fraction that there is.
        LeftAlone z = Due.of("d1,9;m0,0;w0,1,0;w0,1,0;w0,1,0;w0,1,0;w0,1,0;w0,1,0;");
        fraction(z, 0, 12, 9, 1, 1000000);
        fraction(z, 0, 12, 1, 531441, 1000000);
    }

    private static void drawn() {
        // X from 4 is 67228 first, from 1 16807.
        LeftAlone x = Due.of("d1,0;m0,0;m0,1;m0,9;f0,2,0;p1,1,0;");
        due.is("no DAYS", x.drawn(0, 4, 0), 0);
        due.is("no DAYS", x.drawn(0, 4, 1), 0);
        // 67228: LEAVER 0 is SENT to 67228 by 3, 1: MAN 0 nobody, MAN 1 by 2 and 1, 3.
        due.is("one DAY", x.drawn(1, 4, 0), 3);
        due.is("one DAY: nobody USED", x.drawn(1, 4, 1), 0);
        // 16807 from 1: nobody is SENT: MAN 0 by 2; MAN 1 by 1, USED.
        due.is("one DAY by 1", x.drawn(1, 1, 0), 2);
        due.is("one DAY by 1: USED", x.drawn(1, 1, 1), 1);
        due.is("HOUSE stays", x.leaver(0, 0), 0);
        due.is("most", x.drawn(60, 999999, 1) <= 60 ? 1 : 0, 1);
    }

    private static void images() {
        LeftAlone x = Due.of("d2,3;m10,4;m5,1;p0,5,0;f1,2,1;");
        x.days(2);
        x.bar(1, 1);
        int felt = x.count(4);
        due.is("image(0)", x.image(0), 1);
        due.is("ACTS stay", x.count(6), 3);
        due.is("restore(1): none kept", x.restore(1), STATE);
        x.send(1, 0);
        x.weight(1, 9);
        x.days(5);
        due.is("another TOWN", Due.read(x, "d1,0;m0,0;p0,1,0;"), 1);
        due.is("image(1)", x.image(1), 1);
        due.is("restore(0)", x.restore(0), 1);
        due.is("MEN", x.count(1), 2);
        due.is("LEAVERS", x.count(2), 2);
        due.is("DAY", x.count(3), 2);
        due.is("FEELS", x.count(4), felt);
        due.is("BARRED", x.count(5), 2);
        due.is("no ACT", x.count(6), 0);
        due.is("undo", x.undo(), STATE);
        due.is("HOUSE", x.leaver(1, 0), 1);
        due.is("WEIGHT", x.leaver(1, 1), 2);
        due.is("KIND", x.kind(1), 2);
        due.is("times", x.leaver(1, 5), 1);
        x.days(1);
        due.is("restore(0) again", x.restore(0), 1);
        due.is("DAY again", x.count(3), 2);
        due.is("restore(1)", x.restore(1), 1);
        due.is("MEN", x.count(1), 1);
        due.is("image(1) in place", x.image(0), 1);
        x.restore(0);
        due.is("MEN of the later IMAGE", x.count(1), 1);
    }
}
