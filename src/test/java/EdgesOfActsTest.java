/** Promises 9 to 16, DAYS and ACTS: each sentence that names an edge, on both sides of it. */
public final class EdgesOfActsTest {
    private static final int BAD = LeftAlone.BAD, FULL = LeftAlone.FULL, STATE = LeftAlone.STATE;
    private static final int LEAST = Integer.MIN_VALUE, MOST = Integer.MAX_VALUE;
    private static final Due due = new Due("EdgesOfActsTest");

    public static void main(String[] args) {
        houseOfTheDay();
        pointed();
        nineMoreAtMost();
        awayFromThisHouse();
        halfCut();
        daysOfThree();
        daysOfRain();
        nobodyAway();
        moreThanPatience();
        usedToIt();
        notAbove99();
        onceMore();
        sent();
        actsKept();
        oldestForgotten();
        latestFirst();
        timesOfEach();
        undoNone();
        daysN();
        daysNoTown();
        lastDay();
        sendRefusals();
        weightEdges();
        barEdges();
        barSo();
        patienceEdges();
        leaverWhat();
        manWhat();
        due.end();
    }

    private static void houseOfTheDay() {
        due.says(0, "the rest of HOUSE and PACE times DAY by how many houses there are.");
        for (int men = 1; men <= 5; men++) {
            for (int pace = 0; pace <= 4; pace++) {
                int house = men - 1;
                LeftAlone x = Due.of("d1,0;" + "m0,0;".repeat(men) + "p" + house + ",1," + pace + ";");
                for (int day = 0; day <= 11; day++) {
                    int away = house;
                    for (int step = 0; step < pace * day; step++) {
                        away = away == men - 1 ? 0 : away + 1;
                    }
                    String when = men + " houses, PACE " + pace + ", DAY " + day;
                    due.is(when, x.leaver(0, 3), away);
                    for (int man = 0; man < men; man++) {
                        due.is(when + ", MAN " + man, x.man(man, 3), man == away ? 1 : 0);
                    }
                    x.days(1);
                }
            }
        }
        LeftAlone x = onDay("d1,0;m0,0;m0,0;m0,0;m0,0;m0,0;p3,1,4;", 999);
        due.is("3 and 4 times 999 by 5", x.leaver(0, 3), 4);
        due.is("60 DAYS on", x.awayAhead(4, 60), 1);
    }

    /** A TOWN on a later DAY. */
    private static LeftAlone onDay(String text, int day) {
        LeftAlone x = Due.of(text);
        int left = day;
        while (left > 0) {
            int n = Math.min(left, 24);
            x.days(n);
            left -= n;
        }
        if (x.count(3) != day) {
            throw new IllegalStateException("no DAY " + day);
        }
        return x;
    }

    private static void pointed() {
        due.says(0, "a pointed one WEIGHT");
        for (int weight = 1; weight <= 9; weight++) {
            LeftAlone x = Due.of("d1,9;m0,0;p0," + weight + ",0;");
            for (int day = 0; day < 12; day++) {
                due.is("WEIGHT " + weight + " on DAY " + day, x.leaver(0, 4), weight);
                x.days(1);
            }
        }
    }

    private static void nineMoreAtMost() {
        due.says(0, "9 more at most");
        for (int weight = 1; weight <= 9; weight += 4) {
            LeftAlone x = Due.of("d1,0;m0,0;f0," + weight + ",0;");
            for (int times = 0; times <= 12; times++) {
                due.is("times " + times, x.leaver(0, 5), times);
                due.is("MAKES, " + times + " times away", x.leaver(0, 4),
                        times <= 9 ? weight + times : weight + 9);
                x.days(1);
            }
        }
    }

    private static void awayFromThisHouse() {
        due.says(0, "1 more for each time he was away from this house since he was SENT");
        // Houses 0, 1, 0, 1, ..: each second DAY he is away from this one.
        LeftAlone x = Due.of("d1,0;m0,0;m0,0;f0,2,1;");
        for (int day = 0; day < 24; day++) {
            due.is("times on DAY " + day, x.leaver(0, 5), day / 2);
            due.is("MAKES on DAY " + day, x.leaver(0, 4), 2 + Math.min(9, day / 2));
            x.days(1);
        }
        due.is("SENT to the other house", x.send(0, 1), 0);
        due.is("times", x.leaver(0, 5), 0);
        due.is("MAKES", x.leaver(0, 4), 2);
    }

    private static void halfCut() {
        due.says(0, "a substitute half of WEIGHT (cut)");
        int[] half = {0, 0, 1, 1, 2, 2, 3, 3, 4, 4};
        for (int weight = 1; weight <= 9; weight++) {
            LeftAlone x = Due.of("d1,9;m0,0;s0," + weight + ",0;");
            due.is("WEIGHT " + weight, x.leaver(0, 4), half[weight]);
            x.days(4);
            due.is("WEIGHT " + weight + " on DAY 4", x.leaver(0, 4), half[weight]);
        }
    }

    private static void daysOfThree() {
        due.says(0, "an idle one WEIGHT on DAYS that 3 parts without rest, else nothing");
        LeftAlone x = Due.of("d1,9;m0,0;i0,7,0;");
        int[] makes = {7, 0, 0, 7, 0, 0, 7, 0, 0, 7, 0, 0, 7};
        for (int day = 0; day < makes.length; day++) {
            due.is("DAY " + day, x.leaver(0, 4), makes[day]);
            x.days(1);
        }
        due.is("DAY 999", onDay("d1,9;m0,0;i0,7,0;", 999).leaver(0, 4), 7);
        due.is("DAY 998", onDay("d1,9;m0,0;i0,7,0;", 998).leaver(0, 4), 0);
    }

    private static void daysOfRain() {
        due.says(0, "one in the wet twice WEIGHT on DAYS of RAIN (the rest of 7 times DAY by 10 is below RAIN)");
        int[] rest = {0, 7, 4, 1, 8, 5, 2, 9, 6, 3};
        for (int rain = 0; rain <= 9; rain++) {
            LeftAlone x = Due.of("d1," + rain + ";m0,0;w0,4,0;");
            for (int day = 0; day <= 30; day++) {
                int idle = day % 3 == 0 ? 4 : 0;
                due.is("RAIN " + rain + ", DAY " + day, x.leaver(0, 4), rest[day % 10] < rain ? 8 : idle);
                x.days(1);
            }
        }
    }

    private static void nobodyAway() {
        due.says(0, "a MAN from whose house nobody is away FEELS 1 less");
        LeftAlone x = Due.of("d9,0;m0,0;m2,0;m1,9;m0,9;p0,1,0;");
        x.days(1);
        due.is("2: 1", x.man(1, 0), 1);
        due.is("1: 0", x.man(2, 0), 0);
        due.is("0: 0", x.man(3, 0), 0);
        x.days(1);
        due.is("1: 0", x.man(1, 0), 0);
        due.is("0: 0", x.man(2, 0), 0);
    }

    private static void moreThanPatience() {
        due.says(0, "together, is more than PATIENCE, he FEELS so much more");
        for (int patience = 0; patience <= 9; patience++) {
            for (int weight = 1; weight <= 9; weight++) {
                LeftAlone x = Due.of("d3,0;m20," + patience + ";p0," + weight + ",0;");
                due.is("PATIENCE " + patience + ", " + weight, x.days(1),
                        weight > patience ? 20 + weight : 17);
            }
        }
        // Together: neither of them by himself.
        LeftAlone x = Due.of("d3,0;m20,4;m20,4;m20,4;p0,2,0;p0,3,0;p1,2,0;p1,2,0;p2,4,0;");
        due.is("2 and 3", x.man(0, 4), 5);
        due.is("2 and 2", x.man(1, 4), 4);
        x.days(1);
        due.is("2 and 3: more than 4", x.man(0, 0), 25);
        due.is("2 and 2: not more", x.man(1, 0), 17);
        due.is("4: not more", x.man(2, 0), 17);
    }

    private static void usedToIt() {
        due.says(0, "if not, he is USED to it, and FEELS so much less as USED (the law's) is.");
        for (int used = 1; used <= 9; used++) {
            for (int felt = used - 1; felt <= used + 1; felt++) {
                LeftAlone x = Due.of("d" + used + ",0;m" + felt + ",9;p0,1,0;");
                due.is("USED " + used + ", FEELS " + felt, x.days(1), felt <= used ? 0 : 1);
            }
        }
        // Away, and nothing made felt: PATIENCE 0 is enough to be USED to it.
        LeftAlone x = Due.of("d5,0;m20,0;m20,0;s0,1,0;");
        x.days(1);
        due.is("nothing made felt", x.man(0, 0), 15);
        due.is("nobody away", x.man(1, 0), 19);
    }

    private static void notAbove99() {
        due.says(0, "FEELS is 0 to 99.");
        // 60, and 9 each DAY: 69, 78, 87, 96; then what is made is set.
        for (int weight = 1; weight <= 9; weight++) {
            LeftAlone x = Due.of("d1,0;m60,0;p0,9,0;");
            due.is("96", x.days(4), 96);
            x.weight(0, weight);
            due.is("96 and " + weight, x.days(1), weight <= 3 ? 96 + weight : 99);
        }
        LeftAlone x = Due.of("d1,0;m60,0;m0,0;p0,9,0;");
        x.days(24);
        due.is("99", x.man(0, 0), 99);
        due.is("0", x.man(1, 0), 0);
        x.days(24);
        due.is("99 yet", x.man(0, 0), 99);
        x.send(0, 1);
        x.days(1);
        due.is("98 next", x.man(0, 0), 98);
        due.is("9 next", x.man(1, 0), 9);
    }

    private static void onceMore() {
        due.says(0, "Then each LEAVER was away from the house where he was once more.");
        // On the first DAY he MAKES WEIGHT felt: he is away once more behind it alone.
        LeftAlone x = Due.of("d1,0;m10,0;f0,3,0;");
        due.is("10 and 3", x.days(1), 13);
        due.is("times", x.leaver(0, 5), 1);
        due.is("13 and 4", x.days(1), 17);
        due.is("times", x.leaver(0, 5), 2);
        due.says(0, "DAY is 1 more.");
        due.is("DAY", x.count(3), 2);
        // All KINDS count, not the faithful ones alone.
        LeftAlone y = Due.of("d1,0;m0,0;p0,1,0;s0,1,0;i0,1,0;w0,1,0;");
        y.days(3);
        for (int one = 0; one < 4; one++) {
            due.is("times of " + one, y.leaver(one, 5), 3);
        }
    }

    private static void sent() {
        due.says(0, "a LEAVER is SENT to another house (HOUSE; he was away from none since)");
        LeftAlone x = Due.of("d1,0;m0,0;m0,0;m0,0;f0,1,1;f1,1,1;");
        x.days(9);
        due.is("times", x.leaver(0, 5), 3);
        due.is("send(0, 2)", x.send(0, 2), 0);
        due.is("HOUSE", x.leaver(0, 0), 2);
        due.is("today's house: 2 and 9 by 3", x.leaver(0, 3), 2);
        for (int day = 0; day < 3; day++) {
            due.is("from none since", x.leaver(0, 5), 0);
            due.is("the other one stays as he is", x.leaver(1, 5), 3);
            x.days(1);
        }
        due.is("once since", x.leaver(0, 5), 1);
        due.says(11, "SENT: the HOUSE he had.");
        due.is("send(0, 1)", x.send(0, 1), 2);
        due.is("send(0, 1) again", x.send(0, 1), 1);
        due.is("DAY stays", x.count(3), 12);
    }

    private static void actsKept() {
        due.says(0, "24 at most are kept");
        LeftAlone x = Due.of("d1,0;m0,9;p0,1,0;");
        for (int i = 1; i <= 26; i++) {
            x.patience(0, i % 10);
            due.is("ACT " + i, x.count(6), Math.min(i, 24));
        }
        LeftAlone y = Due.of("d1,0;m0,9;p0,1,0;");
        y.weight(0, 2);
        y.days(23);
        due.is("24 ACTS", y.count(6), 24);
        for (int left = 23; left >= 0; left--) {
            due.is("undo", y.undo(), left);
        }
        due.is("all undone: WEIGHT", y.leaver(0, 1), 1);
        due.is("no more", y.undo(), STATE);
    }

    private static void oldestForgotten() {
        due.says(0, "of more the oldest is forgotten");
        LeftAlone x = Due.of("d1,0;m0,9;p0,1,0;");
        x.weight(0, 2);
        x.days(24);
        due.is("24 ACTS", x.count(6), 24);
        for (int left = 23; left >= 0; left--) {
            due.is("undo", x.undo(), left);
        }
        due.is("DAY 0", x.count(3), 0);
        due.is("WEIGHT stays", x.leaver(0, 1), 2);
        due.is("no more", x.undo(), STATE);
        // Many more than are kept, some of them undone on the way.
        LeftAlone y = Due.of("d1,0;m0,9;p0,1,0;");
        y.days(20);
        y.undo();
        y.undo();
        y.days(20);
        y.days(24);
        y.undo();
        due.is("DAY 61", y.count(3), 61);
        due.is("23 can be undone", y.count(6), 23);
        y.days(2);
        due.is("24 again", y.count(6), 24);
        for (int left = 23; left >= 0; left--) {
            due.is("undo", y.undo(), left);
            due.is("DAY", y.count(3), 39 + left);
        }
        due.is("no more", y.undo(), STATE);
        due.is("DAY stays", y.count(3), 39);
    }

    private static void latestFirst() {
        due.says(0, "each can be undone, the latest first");
        LeftAlone x = Due.of("d1,0;m5,9;m5,8;f0,1,0;p1,1,0;");
        x.send(0, 1);
        x.weight(1, 7);
        x.bar(1, 1);
        x.patience(0, 3);
        x.days(1);
        x.bar(1, 0);
        due.is("bar undone", x.undo(), 5);
        due.is("BARRED", x.count(5), 2);
        due.is("DAY undone", x.undo(), 4);
        due.is("DAY", x.count(3), 0);
        due.is("FEELS", x.count(4), 10);
        due.is("times", x.leaver(0, 5), 0);
        due.is("PATIENCE undone", x.undo(), 3);
        due.is("PATIENCE", x.man(0, 1), 9);
        due.is("BARRED yet", x.count(5), 2);
        due.is("bar undone", x.undo(), 2);
        due.is("BARRED", x.count(5), 0);
        due.is("WEIGHT yet", x.leaver(1, 1), 7);
        due.is("WEIGHT undone", x.undo(), 1);
        due.is("WEIGHT", x.leaver(1, 1), 1);
        due.is("HOUSE yet", x.leaver(0, 0), 1);
        due.is("SENT undone", x.undo(), 0);
        due.is("HOUSE", x.leaver(0, 0), 0);
        // What he was away comes back with the HOUSE that he had.
        LeftAlone y = Due.of("d1,0;m5,9;m5,8;f0,1,0;");
        y.days(4);
        y.send(0, 1);
        y.days(2);
        due.is("times", y.leaver(0, 5), 2);
        y.undo();
        y.undo();
        due.is("undo of SENT", y.undo(), 4);
        due.is("times as ahead", y.leaver(0, 5), 4);
        due.is("MAKES as ahead", y.leaver(0, 4), 5);
    }

    /** On DAYS 13 .. 17 each was away from the house of the DAY 2, 2, 3, 3, 3 times. */
    private static void fiveDays(String what, LeftAlone x) {
        int[] times = {2, 2, 3, 3, 3};
        due.is(what + ": DAY", x.count(3), 13);
        for (int day = 0; day < 5; day++) {
            for (int one = 0; one < 6; one++) {
                due.is(what + ": LEAVER " + one + ", DAY " + (13 + day), x.leaver(one, 5), times[day]);
                due.is(what + ": house", x.leaver(one, 3), (one + 13 + day) % 5);
            }
            x.days(1);
        }
    }

    private static void timesOfEach() {
        due.says(0, "each can be undone, the latest first");
        String text = "d1,0;m0,0;m0,0;m0,0;m0,0;m0,0;f0,1,1;f1,1,1;f2,1,1;f3,1,1;f4,1,1;f0,1,1;";
        LeftAlone x = onDay(text, 13);
        for (int one = 0; one < 6; one++) {
            x.send(one, 0);
        }
        x.days(3);
        for (int i = 0; i < 9; i++) {
            x.undo();
        }
        fiveDays("undone", x);
        LeftAlone y = onDay(text, 13);
        y.image(1);
        y.days(9);
        for (int one = 0; one < 6; one++) {
            y.send(one, 0);
        }
        y.restore(1);
        fiveDays("restored", y);
        LeftAlone z = onDay(text, 13);
        LeftAlone later = onDay(text, 13);
        for (int n = 0; n <= 10; n++) {
            for (int man = 0; man < 5; man++) {
                due.is("foretold by " + n, z.ahead(man, n), later.man(man, 0));
            }
            later.days(1);
        }
    }

    private static void undoNone() {
        due.says(9, "The latest ACT is undone: how many can be undone yet. STATE: none.");
        LeftAlone x = new LeftAlone();
        due.is("no TOWN", x.undo(), STATE);
        Due.read(x, "d1,0;m5,9;p0,1,0;");
        due.is("no ACT", x.undo(), STATE);
        x.days(2);
        due.is("one yet", x.undo(), 1);
        due.is("none yet", x.undo(), 0);
        due.is("none", x.undo(), STATE);
        due.is("what is refused is no ACT", x.days(0), BAD);
        due.is("what is refused is no ACT", x.weight(0, 0), BAD);
        due.is("what is refused is no ACT", x.bar(0, 0), STATE);
        due.is("none", x.undo(), STATE);
        x.image(0);
        x.days(1);
        x.restore(0);
        due.is("none behind restore", x.undo(), STATE);
    }

    private static void daysN() {
        due.says(10, "n DAYS (1 to 24), an ACT each: FEELS of all MEN then.");
        LeftAlone x = Due.of("d1,0;m5,0;m50,0;p0,1,0;");
        for (int n : new int[] {LEAST, -1, 0, 25, MOST}) {
            due.is("days(" + n + ")", x.days(n), BAD);
        }
        due.is("DAY", x.count(3), 0);
        due.is("days(1)", x.days(1), 6 + 49);
        due.is("one ACT", x.count(6), 1);
        due.is("DAY", x.count(3), 1);
        due.is("days(2)", x.days(2), 8 + 47);
        due.is("two ACTS", x.count(6), 3);
        due.is("days(24)", x.days(24), 32 + 23);
        due.is("24 ACTS", x.count(6), 24);
        due.is("DAY", x.count(3), 27);
    }

    private static void daysNoTown() {
        due.says(10, "STATE: no TOWN (ahead of BAD)");
        LeftAlone x = new LeftAlone();
        for (int n : new int[] {LEAST, -1, 0, 1, 24, 25, MOST}) {
            due.is("days(" + n + ")", x.days(n), STATE);
        }
        Due.read(x, "d1,0;m5");
        due.is("a FAULT makes no TOWN", x.days(0), STATE);
        Due.read(x, "d1,0;m5,0;p0,1,0;");
        due.is("a TOWN", x.days(0), BAD);
    }

    private static void lastDay() {
        due.says(10, "FULL: DAY would be above 999.");
        for (int n = 1; n <= 24; n++) {
            LeftAlone x = onDay("d1,0;m5,0;p0,1,0;", 999 - n);
            if (n < 24) {
                due.is("days(" + (n + 1) + ") on " + (999 - n), x.days(n + 1), FULL);
                due.is("none of them was", x.count(3), 999 - n);
            }
            due.is("days(25): BAD ahead of FULL", x.days(25), BAD);
            due.is("days(" + n + ") on " + (999 - n), x.days(n), 99);
            due.is("DAY", x.count(3), 999);
            due.is("days(1) on 999", x.days(1), FULL);
            due.is("days(24) on 999", x.days(24), FULL);
            due.is("days(0) on 999", x.days(0), BAD);
            due.is("DAY", x.count(3), 999);
        }
        LeftAlone x = onDay("d1,0;m5,0;p0,1,0;", 999);
        due.is("other ACTS are done yet", x.weight(0, 2), 1);
        x.undo();
        x.undo();
        due.is("undone: 998", x.count(3), 998);
        due.is("days(2)", x.days(2), FULL);
        due.is("days(1)", x.days(1), 99);
    }

    private static void sendRefusals() {
        due.says(11, "SENT: the HOUSE he had. BAD.");
        due.is("no TOWN", new LeftAlone().send(0, 0), BAD);
        for (int men = 1; men <= 5; men++) {
            LeftAlone x = Due.of("d1,0;" + "m0,0;".repeat(men) + "p0,1,0;".repeat(men));
            for (int off : new int[] {LEAST, -1, men, MOST}) {
                due.is("LEAVER " + off, x.send(off, 0), BAD);
                due.is("house " + off, x.send(0, off), BAD);
            }
            due.is("no ACT", x.count(6), 0);
            due.is("the last LEAVER to the last house", x.send(men - 1, men - 1), 0);
            due.is("back", x.send(men - 1, 0), men - 1);
            due.is("two ACTS", x.count(6), 2);
        }
        LeftAlone six = Due.of("d1,0;m0,0;m0,0;" + "p1,1,0;".repeat(6));
        due.is("LEAVER 5", six.send(5, 0), 1);
        due.is("LEAVER 6", six.send(6, 0), BAD);
        due.is("house 1", six.send(0, 1), 1);
        due.is("house 2", six.send(0, 2), BAD);
    }

    private static void weightEdges() {
        due.says(12, "WEIGHT (1 to 9): what it was. BAD.");
        due.is("no TOWN", new LeftAlone().weight(0, 1), BAD);
        LeftAlone x = Due.of("d1,0;m0,0;p0,5,0;p0,6,0;");
        for (int n : new int[] {LEAST, -1, 0, 10, MOST}) {
            due.is("weight(0, " + n + ")", x.weight(0, n), BAD);
        }
        for (int off : new int[] {LEAST, -1, 2, MOST}) {
            due.is("weight(" + off + ", 1)", x.weight(off, 1), BAD);
        }
        due.is("no ACT", x.count(6), 0);
        due.is("1", x.weight(0, 1), 5);
        due.is("1 it is", x.leaver(0, 1), 1);
        due.is("9", x.weight(0, 9), 1);
        due.is("9 it is", x.leaver(0, 1), 9);
        due.is("9 again", x.weight(0, 9), 9);
        due.is("the other one's", x.weight(1, 2), 6);
        due.is("ACTS", x.count(6), 4);
    }

    private static void barEdges() {
        due.says(13, "BARRED (1), or no more (0): who is (bits). BAD; STATE: it is so.");
        due.is("no TOWN", new LeftAlone().bar(0, 1), BAD);
        for (int men = 1; men <= 5; men++) {
            LeftAlone x = Due.of("d1,0;" + "m0,0;".repeat(men) + "p0,1,0;");
            for (int off : new int[] {LEAST, -1, men, MOST}) {
                due.is("MAN " + off, x.bar(off, 1), BAD);
                due.is("MAN " + off + ", 0", x.bar(off, 0), BAD);
            }
            for (int on : new int[] {LEAST, -1, 2, MOST}) {
                due.is("on " + on, x.bar(0, on), BAD);
            }
            due.is("nobody", x.count(5), 0);
            int who = 0;
            for (int man = men - 1; man >= 0; man--) {
                who += 1 << man;
                due.is("bar(" + man + ", 1)", x.bar(man, 1), who);
            }
            due.is("all", x.count(5), (1 << men) - 1);
            due.is("the last no more", x.bar(men - 1, 0), (1 << men - 1) - 1);
        }
    }

    private static void barSo() {
        due.says(13, "STATE: it is so.");
        LeftAlone x = Due.of("d1,0;m0,0;m0,0;p0,1,0;");
        due.is("not BARRED", x.bar(1, 0), STATE);
        due.is("BARRED", x.bar(1, 1), 2);
        due.is("BARRED already", x.bar(1, 1), STATE);
        due.is("the other one is not", x.bar(0, 0), STATE);
        due.is("one ACT", x.count(6), 1);
        due.is("BAD ahead of STATE", x.bar(2, 0), BAD);
        due.is("no more", x.bar(1, 0), 0);
        due.is("no more, already", x.bar(1, 0), STATE);
        due.is("two ACTS", x.count(6), 2);
    }

    private static void patienceEdges() {
        due.says(14, "PATIENCE (0 to 9): what it was. BAD.");
        due.is("no TOWN", new LeftAlone().patience(0, 1), BAD);
        LeftAlone x = Due.of("d1,0;m0,5;m0,6;p0,5,0;");
        for (int n : new int[] {LEAST, -1, 10, MOST}) {
            due.is("patience(0, " + n + ")", x.patience(0, n), BAD);
        }
        for (int off : new int[] {LEAST, -1, 2, MOST}) {
            due.is("patience(" + off + ", 1)", x.patience(off, 1), BAD);
        }
        due.is("no ACT", x.count(6), 0);
        due.is("0", x.patience(0, 0), 5);
        due.is("0 it is", x.man(0, 1), 0);
        due.is("9", x.patience(0, 9), 0);
        due.is("9 it is", x.man(0, 1), 9);
        due.is("9 again", x.patience(0, 9), 9);
        due.is("the other one's", x.patience(1, 2), 6);
        due.is("ACTS", x.count(6), 4);
    }

    private static void leaverWhat() {
        due.says(15, "5 how often he was away from that house since he was sent. BAD.");
        due.is("no TOWN", new LeftAlone().leaver(0, 0), BAD);
        LeftAlone x = Due.of("d1,0;m0,0;m0,0;m0,0;p0,5,0;f2,6,4;");
        x.days(4);
        for (int off : new int[] {LEAST, -1, 2, MOST}) {
            for (int what = 0; what <= 5; what++) {
                due.is("leaver(" + off + ", " + what + ")", x.leaver(off, what), BAD);
            }
        }
        for (int what : new int[] {LEAST, -1, 6, MOST}) {
            due.is("leaver(0, " + what + ")", x.leaver(0, what), BAD);
        }
        // He was away from 2, 0, 1, 2; today from 0: 2 and 16 by 3.
        int[] second = {2, 6, 4, 0, 7, 1};
        int[] first = {0, 5, 0, 0, 5, 4};
        for (int what = 0; what <= 5; what++) {
            due.is("leaver(0, " + what + ")", x.leaver(0, what), first[what]);
            due.is("leaver(1, " + what + ")", x.leaver(1, what), second[what]);
        }
        x.days(8);
        x.send(1, 1);
        due.is("since he was sent", x.leaver(1, 5), 0);
    }

    private static void manWhat() {
        due.says(16, "3 who is away from his house today (bits), 4 what they MAKE felt, together. BAD.");
        due.is("no TOWN", new LeftAlone().man(0, 0), BAD);
        LeftAlone x = Due.of("d1,0;m7,3;m8,4;m9,9;p0,5,0;f0,6,0;p1,1,0;s0,9,0;i0,8,0;w0,4,0;");
        for (int off : new int[] {LEAST, -1, 3, MOST}) {
            for (int what = 0; what <= 4; what++) {
                due.is("man(" + off + ", " + what + ")", x.man(off, what), BAD);
            }
        }
        for (int what : new int[] {LEAST, -1, 5, MOST}) {
            due.is("man(0, " + what + ")", x.man(0, what), BAD);
        }
        x.bar(1, 1);
        int[][] want = {{7, 3, 0, 0b111011, 5 + 6 + 4 + 8 + 4}, {8, 4, 1, 0b000100, 1}, {9, 9, 0, 0, 0}};
        for (int man = 0; man < 3; man++) {
            for (int what = 0; what <= 4; what++) {
                due.is("man(" + man + ", " + what + ")", x.man(man, what), want[man][what]);
            }
        }
        x.days(1);
        due.is("on DAY 1: all of them yet", x.man(0, 3), 0b111011);
        due.is("on DAY 1: 5, 7, 4", x.man(0, 4), 5 + 7 + 4);
    }
}
