/** Promises 17 to 24 and 29 to 35: each sentence that names an edge, on both sides of it. */
public final class EdgesOfForetoldTest {
    private static final int NONE = LeftAlone.NONE, BAD = LeftAlone.BAD, STATE = LeftAlone.STATE;
    private static final int LEAST = Integer.MIN_VALUE, MOST = Integer.MAX_VALUE;
    private static final String TOWN = "d2,4;m10,3;m5,0;m60,9;f0,3,1;p1,4,2;w2,5,0;s0,9,0;";
    private static final Due due = new Due("EdgesOfForetoldTest");

    public static void main(String[] args) {
        aheadDays();
        aheadOfTheLastDay();
        awayDays();
        firstDay();
        reachNow();
        reachSixty();
        reachFeelings();
        usualDays();
        fewestMen();
        fewestNumbers();
        fewestOrMore();
        fewestSentHome();
        fewestOfSeveral();
        bestHouseNumbers();
        bestHouseOfSeveral();
        bestHouseSentNow();
        tellsNumbers();
        tellsOfSeveral();
        tellsThousandMore();
        greetsNumbers();
        greetsFree();
        greetsFirst();
        talkAlike();
        talkAll();
        aloneMost();
        rainNumbers();
        rainLowestTerms();
        rainOrMore();
        drawnNumbers();
        drawnBySeed();
        drawnOfOne();
        images();
        noneKept();
        noActThen();
        due.end();
    }

    private static int[] off(int least, int most) {
        return new int[] {LEAST, least - 1, most + 1, MOST};
    }

    private static void aheadDays() {
        due.says(17, "AHEAD: FEELS. BAD.");
        due.is("no TOWN", new LeftAlone().ahead(0, 0), BAD);
        LeftAlone x = Due.of(TOWN);
        for (int n : off(0, 60)) {
            due.is("ahead(0, " + n + ")", x.ahead(0, n), BAD);
        }
        for (int man : off(0, 2)) {
            due.is("ahead(" + man + ", 0)", x.ahead(man, 0), BAD);
        }
        due.says(0, "AHEAD by n DAYS (0 to 60): FEELS of a MAN");
        LeftAlone later = Due.of(TOWN);
        for (int n = 0; n <= 60; n++) {
            for (int man = 0; man < 3; man++) {
                due.is("ahead(" + man + ", " + n + ")", x.ahead(man, n), later.man(man, 0));
            }
            later.days(1);
        }
        due.is("DAY stays", x.count(3), 0);
    }

    /** A TOWN on DAY 999. */
    private static LeftAlone onLastDay(String text) {
        LeftAlone x = Due.of(text);
        for (int i = 0; i < 41; i++) {
            x.days(24);
        }
        x.days(15);
        return x;
    }

    private static void aheadOfTheLastDay() {
        due.says(0, "FORETOLD (nothing changes). AHEAD by n DAYS (0 to 60)");
        // DAYS 999, 1002, .. are those that 3 parts; 9 more on each, and 4 less on each of the others.
        LeftAlone x = onLastDay("d4,0;m0,0;m0,0;i0,9,0;p0,1,1;");
        due.is("days(1)", x.days(1), LeftAlone.FULL);
        int now = x.man(0, 0);
        due.is("ahead(0, 0)", x.ahead(0, 0), now);
        due.is("awayAhead(1, 0): DAY 999", x.awayAhead(1, 0), 2);
        due.is("awayAhead(1, 1): DAY 1000", x.awayAhead(1, 1), 0);
        due.is("awayAhead(0, 1): DAY 1000", x.awayAhead(0, 1), 3);
        due.is("awayAhead(1, 60): DAY 1059", x.awayAhead(1, 60), 2);
        due.is("ahead(0, 1): 9 on DAY 999", x.ahead(0, 1), Math.min(99, now + 9));
        due.is("first(1): DAY 1000", x.first(1), 2);
        LeftAlone y = onLastDay("d4,0;m0,9;p0,1,0;");
        y.patience(0, 0);
        due.is("ahead(0, 60)", y.ahead(0, 60), 60);
        due.is("reach(0, 60)", y.reach(0, 60), 60);
        due.is("usual(0, 60)", y.usual(0, 60), 0);
        due.is("drawn(60, 1, 0)", y.drawn(60, 1, 0), 60);
        due.is("DAY stays", y.count(3), 999);
    }

    private static void awayDays() {
        due.says(18, "AHEAD: who is away from his house. BAD.");
        due.is("no TOWN", new LeftAlone().awayAhead(0, 0), BAD);
        LeftAlone x = Due.of(TOWN);
        for (int n : off(0, 60)) {
            due.is("awayAhead(0, " + n + ")", x.awayAhead(0, n), BAD);
        }
        for (int man : off(0, 2)) {
            due.is("awayAhead(" + man + ", 0)", x.awayAhead(man, 0), BAD);
        }
        LeftAlone later = Due.of(TOWN);
        for (int n = 0; n <= 60; n++) {
            for (int man = 0; man < 3; man++) {
                due.is("awayAhead(" + man + ", " + n + ")", x.awayAhead(man, n), later.man(man, 3));
            }
            later.days(1);
        }
    }

    private static void firstDay() {
        due.says(19, "FIRST; NONE. BAD.");
        due.is("no TOWN", new LeftAlone().first(0), BAD);
        // LEAVERS who go one house on each DAY: of MAN 4 the first is away on DAY 0, the next on 1, ..
        String[] leavers = {"p4,1,1;", "p3,1,1;", "p2,1,1;", "p1,1,1;", "p0,1,1;"};
        StringBuilder text = new StringBuilder("d1,0;m0,0;m0,0;m0,0;m0,0;m0,0;");
        for (int many = 1; many <= 5; many++) {
            text.append(leavers[many - 1]);
            LeftAlone x = Due.of(text.toString());
            due.is("first(4) by " + many, x.first(4), many < 5 ? many + 1 : NONE);
            if (many == 1) {
                due.is("first(3): today", x.first(3), 1);
            }
            for (int man : off(0, 4)) {
                due.is("first(" + man + ")", x.first(man), BAD);
            }
        }
        LeftAlone one = Due.of("d1,0;m0,0;s0,1,3;");
        due.is("one house alone", one.first(0), NONE);
        due.is("first(1)", one.first(1), BAD);
        one.days(24);
        due.is("one house alone, later", one.first(0), NONE);
    }

    private static void reachNow() {
        due.says(0, "REACH: behind how many DAYS (0: now; 60 at most) a MAN FEELS v (1 to 99) or more first; NONE.");
        LeftAlone x = Due.of("d5,0;m10,0;m10,9;p0,3,0;p1,3,0;");
        due.is("less than now", x.reach(0, 9), 0);
        due.is("as much as now", x.reach(0, 10), 0);
        due.is("1 more than now", x.reach(0, 11), 1);
        due.is("13", x.reach(0, 13), 1);
        due.is("14", x.reach(0, 14), 2);
        due.is("he FEELS less: as much as now", x.reach(1, 10), 0);
        due.is("he FEELS less: 1 more", x.reach(1, 11), NONE);
    }

    private static void reachSixty() {
        due.says(0, "60 at most");
        LeftAlone x = Due.of("d1,0;m0,0;p0,1,0;");
        for (int v = 1; v <= 99; v++) {
            due.is("reach(0, " + v + ")", x.reach(0, v), v <= 60 ? v : NONE);
        }
        x.days(1);
        due.is("61, a DAY later", x.reach(0, 61), 60);
        due.is("62, a DAY later", x.reach(0, 62), NONE);
        // 99 is reached, and no more is felt.
        LeftAlone y = Due.of("d1,0;m60,0;p0,9,0;");
        due.is("99", y.reach(0, 99), 5);
    }

    private static void reachFeelings() {
        due.says(20, "REACH; NONE. BAD.");
        due.is("no TOWN", new LeftAlone().reach(0, 1), BAD);
        LeftAlone x = Due.of(TOWN);
        for (int v : off(1, 99)) {
            due.is("reach(0, " + v + ")", x.reach(0, v), BAD);
        }
        for (int man : off(0, 2)) {
            due.is("reach(" + man + ", 1)", x.reach(man, 1), BAD);
        }
        due.is("reach(0, 1)", x.reach(0, 1), 0);
        due.holds("reach(0, 99)", x.reach(0, 99) == NONE || x.reach(0, 99) > 0);
    }

    private static void usualDays() {
        due.says(21, "USUAL. BAD.");
        due.is("no TOWN", new LeftAlone().usual(0, 1), BAD);
        // DAYS 0, 3, ..: 4 is more than 3; on the others nothing is made, and he is USED to it.
        LeftAlone x = Due.of("d1,0;m0,3;m0,4;m0,9;i0,4,0;i1,4,0;");
        for (int n : off(1, 60)) {
            due.is("usual(0, " + n + ")", x.usual(0, n), BAD);
        }
        for (int man : off(0, 2)) {
            due.is("usual(" + man + ", 1)", x.usual(man, 1), BAD);
        }
        due.says(0, "USUAL in n DAYS (1 to 60): on how many of them a MAN is USED to it.");
        for (int n = 1; n <= 60; n++) {
            due.is("usual(0, " + n + "): 4 is more than 3", x.usual(0, n), n - (n + 2) / 3);
            due.is("usual(1, " + n + "): 4 is not more than 4", x.usual(1, n), n);
            due.is("usual(2, " + n + "): nobody is away", x.usual(2, n), 0);
        }
    }

    private static void fewestMen() {
        due.says(22, "BAD: MEN, n, v, what; STATE: no TOWN (ahead of BAD).");
        LeftAlone none = new LeftAlone();
        due.is("no TOWN", none.fewest(1, 1, 1, 0), STATE);
        due.is("no TOWN, MEN -1", none.fewest(-1, 1, 1, 0), STATE);
        due.is("no TOWN, n 0", none.fewest(1, 0, 1, 0), STATE);
        due.is("no TOWN, v 0", none.fewest(1, 1, 0, 0), STATE);
        due.is("no TOWN, what 2", none.fewest(1, 1, 1, 2), STATE);
        for (int men = 1; men <= 5; men++) {
            LeftAlone x = Due.of("d1,0;" + "m9,0;".repeat(men) + "p0,1,0;");
            int all = (1 << men) - 1;
            for (int bits : off(0, all)) {
                due.is("MEN " + bits + " of " + men, x.fewest(bits, 1, 1, 0), BAD);
            }
            due.is("all " + men, x.fewest(all, 1, 1, 0), 0);
            due.is("all " + men + ": which", x.fewest(all, 1, 1, 1), 0);
            due.is("the last of " + men, x.fewest(1 << men - 1, 1, 8, 0), 0);
            due.is("none of " + men, x.fewest(0, 30, 99, 0), 0);
            due.is("none of " + men + ": which", x.fewest(0, 30, 99, 1), 0);
        }
    }

    private static void fewestNumbers() {
        due.says(0, "FEWEST for told MEN (bits), n DAYS (1 to 30), v (1 to 99)");
        LeftAlone x = Due.of("d1,0;m0,0;p0,1,0;");
        for (int n : off(1, 30)) {
            due.is("n " + n, x.fewest(1, n, 1, 0), BAD);
        }
        for (int v : off(1, 99)) {
            due.is("v " + v, x.fewest(1, 1, v, 0), BAD);
        }
        for (int what : off(0, 1)) {
            due.is("what " + what, x.fewest(1, 1, 1, what), BAD);
        }
        due.is("1 behind 1", x.fewest(1, 1, 1, 0), 1);
        due.is("2 behind 1", x.fewest(1, 1, 2, 0), NONE);
        due.is("30 behind 30", x.fewest(1, 30, 30, 1), 1);
        due.is("31 behind 30", x.fewest(1, 30, 31, 1), NONE);
        due.is("99 behind 30", x.fewest(1, 30, 99, 0), NONE);
        LeftAlone y = Due.of("d1,0;m60,0;p0,9,0;");
        due.is("99 behind 5", y.fewest(1, 5, 99, 0), 1);
        due.is("99 behind 4", y.fewest(1, 4, 99, 0), NONE);
        due.is("99 behind 30", y.fewest(1, 30, 99, 0), 1);
    }

    private static void fewestOrMore() {
        due.says(0, "by which each of these FEELS v or more behind them: how many");
        LeftAlone x = Due.of("d1,0;m10,0;m10,0;p0,4,0;p1,3,0;");
        due.is("MAN 0: 9", x.fewest(1, 1, 9, 1), 0);
        due.is("MAN 0: 10", x.fewest(1, 1, 10, 1), 1);
        due.is("MAN 0: 14", x.fewest(1, 1, 14, 1), 1);
        due.is("MAN 0: 15", x.fewest(1, 1, 15, 1), NONE);
        due.is("both: 9", x.fewest(3, 1, 9, 0), 0);
        due.is("both: 10", x.fewest(3, 1, 10, 0), 2);
        due.is("both: 13", x.fewest(3, 1, 13, 1), 3);
        due.is("both: 14, one of them alone", x.fewest(3, 1, 14, 1), NONE);
        due.is("both: 14, how many", x.fewest(3, 1, 14, 0), NONE);
        // All six are wanted, to be more than PATIENCE.
        LeftAlone six = Due.of("d1,0;m10,5;p0,1,0;p0,1,0;p0,1,0;p0,1,0;p0,1,0;p0,1,0;");
        due.is("six", six.fewest(1, 1, 16, 0), 6);
        due.is("six: which", six.fewest(1, 1, 16, 1), 63);
        due.is("17", six.fewest(1, 1, 17, 0), NONE);
        six.patience(0, 6);
        due.is("six are not enough", six.fewest(1, 1, 16, 0), NONE);
    }

    private static void fewestSentHome() {
        due.says(0, "all others are sent home: they are away from no house");
        // With him he is USED to it, 9 less each DAY; with nobody 1 less.
        LeftAlone x = Due.of("d9,0;m40,9;p0,1,0;");
        due.is("by nobody", x.fewest(1, 30, 10, 0), 0);
        due.is("by nobody: which", x.fewest(1, 30, 10, 1), 0);
        due.is("11", x.fewest(1, 30, 11, 0), NONE);
        // LEAVER 1 makes too little by himself; the first alone makes as much as both but 1.
        LeftAlone y = Due.of("d9,0;m40,3;p0,4,0;p0,1,0;");
        due.is("44", y.fewest(1, 1, 44, 1), 1);
        due.is("45", y.fewest(1, 1, 45, 1), 3);
        due.is("46", y.fewest(1, 1, 46, 1), NONE);
    }

    private static void fewestOfSeveral() {
        due.says(0, "which (bits), of several the least; NONE.");
        LeftAlone x = Due.of("d1,0;m0,0;p0,1,0;p0,2,0;p0,2,0;p0,3,0;");
        due.is("1: each of them", x.fewest(1, 1, 1, 1), 1);
        due.is("2: the second, the third, the last", x.fewest(1, 1, 2, 1), 2);
        due.is("3: the last alone", x.fewest(1, 1, 3, 1), 8);
        due.is("3: how many", x.fewest(1, 1, 3, 0), 1);
        // 1 and 3, 2 and 2, and more.
        due.is("4: two of them", x.fewest(1, 1, 4, 0), 2);
        due.is("4: the second and the third are less than the first and the last", x.fewest(1, 1, 4, 1), 6);
        due.is("5: the second and the last", x.fewest(1, 1, 5, 1), 10);
        due.is("6: the first, the second, the last", x.fewest(1, 1, 6, 1), 11);
        due.is("8: all", x.fewest(1, 1, 8, 1), 15);
        due.is("9", x.fewest(1, 1, 9, 1), NONE);
    }

    private static void bestHouseNumbers() {
        due.says(23, "SEND: which (what = 0), how much (1). BAD.");
        due.is("no TOWN", new LeftAlone().bestHouse(0, 1, 0), BAD);
        LeftAlone x = Due.of("d1,0;m0,9;m0,0;p0,1,0;p0,1,0;");
        for (int one : off(0, 1)) {
            due.is("LEAVER " + one, x.bestHouse(one, 1, 0), BAD);
        }
        for (int n : off(1, 60)) {
            due.is("n " + n, x.bestHouse(0, n, 0), BAD);
        }
        for (int what : off(0, 1)) {
            due.is("what " + what, x.bestHouse(0, 1, what), BAD);
        }
        due.is("which", x.bestHouse(1, 1, 0), 1);
        due.is("behind 1", x.bestHouse(1, 1, 1), 1);
        due.is("behind 60: which", x.bestHouse(1, 60, 0), 1);
        due.is("behind 60", x.bestHouse(1, 60, 1), 60);
    }

    private static void bestHouseOfSeveral() {
        due.says(0, "he makes all MEN FEEL most behind them, together, of several the first; how much that is.");
        LeftAlone x = Due.of("d1,0;m0,9;m0,0;m0,0;p0,3,0;");
        due.is("1 and 2 alike", x.bestHouse(0, 5, 0), 1);
        due.is("1 and 2 alike: how much", x.bestHouse(0, 5, 1), 15);
        LeftAlone y = Due.of("d1,0;m0,9;m0,0;m5,0;p0,3,0;");
        // To 1: 3 and 4; to 2: 0 and 8; to 0: 0 and 4.
        due.is("the last is best", y.bestHouse(0, 1, 0), 2);
        due.is("the last is best: how much", y.bestHouse(0, 1, 1), 8);
        LeftAlone between = Due.of("d1,0;m0,9;m0,0;m0,9;p0,3,0;");
        due.is("the one between", between.bestHouse(0, 1, 0), 1);
        due.is("the one between: how much", between.bestHouse(0, 1, 1), 3);
        LeftAlone z = Due.of("d1,0;m0,9;m0,9;m0,9;m0,9;m0,9;p4,3,0;");
        due.is("nothing anywhere: the first", z.bestHouse(0, 60, 0), 0);
        due.is("nothing anywhere: how much", z.bestHouse(0, 60, 1), 0);
        LeftAlone one = Due.of("d1,0;m60,0;p0,9,0;");
        due.is("one house alone", one.bestHouse(0, 60, 0), 0);
        due.is("one house alone: 99 at most", one.bestHouse(0, 60, 1), 99);
    }

    private static void bestHouseSentNow() {
        due.says(0, "SEND for a LEAVER, n DAYS (1 to 60): the house to which, SENT now");
        LeftAlone x = Due.of("d1,0;m0,0;m0,0;f0,1,0;");
        x.days(3);
        // FEELS 6, 0. SENT to 0 anew: 7, 0; to 1: 5, 1.
        due.is("which", x.bestHouse(0, 1, 0), 0);
        due.is("how much", x.bestHouse(0, 1, 1), 7);
        due.is("not SENT", x.ahead(0, 1), 10);
        due.is("HOUSE stays", x.leaver(0, 0), 0);
        due.is("times stay", x.leaver(0, 5), 3);
        due.is("ACTS stay", x.count(6), 3);
    }

    private static void tellsNumbers() {
        due.says(24, "TELLS: who (what = 0), by how much (1). BAD; STATE: no TOWN (ahead of BAD).");
        LeftAlone none = new LeftAlone();
        due.is("no TOWN", none.tells(1, 0), STATE);
        due.is("no TOWN, n 0", none.tells(0, 0), STATE);
        due.is("no TOWN, n 61", none.tells(61, 0), STATE);
        due.is("no TOWN, what 2", none.tells(1, 2), STATE);
        LeftAlone x = Due.of("d1,0;m0,0;p0,1,0;");
        for (int n : off(1, 60)) {
            due.is("n " + n, x.tells(n, 0), BAD);
        }
        for (int what : off(0, 1)) {
            due.is("what " + what, x.tells(1, what), BAD);
        }
        due.is("who", x.tells(1, 0), 0);
        due.is("behind 1", x.tells(1, 1), 1001);
        due.is("behind 60", x.tells(60, 1), 1060);
    }

    private static void tellsOfSeveral() {
        due.says(0, "all MEN together FEEL least behind them, of several the first");
        LeftAlone x = Due.of("d1,0;m0,0;p0,1,0;p0,2,0;p0,2,0;");
        due.is("the second and the third alike", x.tells(1, 0), 1);
        due.is("by how much", x.tells(1, 1), 1002);
        LeftAlone y = Due.of("d1,0;m0,0;p0,1,0;p0,1,0;p0,1,0;");
        due.is("all alike", y.tells(1, 0), 0);
        LeftAlone between = Due.of("d1,0;m0,0;p0,1,0;p0,2,0;p0,1,0;");
        due.is("the one between", between.tells(1, 0), 1);
        due.is("the one between: by how much", between.tells(1, 1), 1002);
        LeftAlone z = Due.of("d1,0;m0,0;p0,1,0;p0,1,0;p0,1,0;p0,1,0;p0,1,0;p0,2,0;");
        due.is("the last", z.tells(1, 0), 5);
        due.is("the last: by how much", z.tells(1, 1), 1002);
    }

    private static void tellsThousandMore() {
        due.says(0, "by how much less than with him (1000 more).");
        LeftAlone more = Due.of("d5,0;m20,1;p0,2,0;");
        due.is("22, and 19", more.tells(1, 1), 1003);
        LeftAlone alike = Due.of("d1,0;m20,2;p0,2,0;");
        due.is("19, and 19", alike.tells(1, 1), 1000);
        LeftAlone less = Due.of("d2,0;m20,2;p0,2,0;");
        due.is("18, and 19", less.tells(1, 1), 999);
        // Each of both makes him USED: without one of them he is USED yet.
        LeftAlone both = Due.of("d9,0;m60,9;p0,2,0;p0,3,0;");
        due.is("51, and 51", both.tells(1, 1), 1000);
    }

    private static void greetsNumbers() {
        due.says(29, "GREETS: how many (what = 0), the first (1; NONE). BAD; STATE: no TOWN (ahead of BAD).");
        LeftAlone x = new LeftAlone();
        for (int what : new int[] {LEAST, -1, 0, 1, 2, MOST}) {
            due.is("no TOWN, what " + what, x.greets(what), STATE);
        }
        Due.read(x, "d1,0;m0,0;p0,1,0;");
        for (int what : off(0, 1)) {
            due.is("what " + what, x.greets(what), BAD);
        }
        due.is("one MAN alone", x.greets(0), 0);
        due.is("one MAN alone: the first", x.greets(1), NONE);
    }

    private static void greetsFree() {
        due.says(0, "GREETS: pairs of MEN side by side, neither BARRED, from whose houses nobody is away today");
        LeftAlone x = Due.of("d1,0;m0,0;m0,0;m0,0;p0,1,0;");
        due.is("1 and 2", x.greets(0), 1);
        due.is("1 and 2: the first", x.greets(1), 12);
        x.bar(2, 1);
        due.is("the greater BARRED", x.greets(0), 0);
        due.is("the greater BARRED: the first", x.greets(1), NONE);
        x.bar(1, 1);
        x.bar(2, 0);
        due.is("the lesser BARRED", x.greets(0), 0);
        x.bar(1, 0);
        x.send(0, 1);
        due.is("away from 1: 0 and 2 are not side by side", x.greets(0), 0);
        x.send(0, 2);
        due.is("away from 2", x.greets(1), 1);
        // One who makes nothing felt is away, too; and the one next door is not.
        LeftAlone y = Due.of("d1,0;m0,0;m0,0;m0,0;s2,1,1;");
        due.is("DAY 0: away from 2", y.greets(1), 1);
        y.days(1);
        due.is("DAY 1: away from 0", y.greets(1), 12);
        y.days(1);
        due.is("DAY 2: away from 1", y.greets(1), NONE);
    }

    private static void greetsFirst() {
        due.says(0, "how many; the first (10 times the lesser, and the greater); NONE.");
        LeftAlone x = Due.of("d1,0;m0,0;m0,0;m0,0;m0,0;m0,0;p4,1,0;");
        due.is("three pairs", x.greets(0), 3);
        due.is("0 and 1", x.greets(1), 1);
        x.bar(0, 1);
        due.is("two pairs", x.greets(0), 2);
        due.is("1 and 2", x.greets(1), 12);
        x.bar(1, 1);
        due.is("one pair", x.greets(0), 1);
        due.is("2 and 3", x.greets(1), 23);
        x.send(0, 2);
        due.is("3 and 4", x.greets(1), 34);
        due.is("one pair", x.greets(0), 1);
        x.bar(4, 1);
        due.is("no pair", x.greets(0), 0);
        due.is("none", x.greets(1), NONE);
    }

    private static void talkAlike() {
        due.says(30, "TALK. BAD: alike, too.");
        due.is("no TOWN", new LeftAlone().talk(0, 1), BAD);
        due.is("no TOWN, alike", new LeftAlone().talk(0, 0), BAD);
        LeftAlone x = Due.of("d1,0;m0,0;m0,0;m0,0;p0,1,0;");
        for (int man = 0; man < 3; man++) {
            for (int other = 0; other < 3; other++) {
                due.is("talk(" + man + ", " + other + ")", x.talk(man, other), man == other ? BAD : 1);
            }
            for (int none : off(0, 2)) {
                due.is("talk(" + man + ", " + none + ")", x.talk(man, none), BAD);
                due.is("talk(" + none + ", " + man + ")", x.talk(none, man), BAD);
            }
        }
        due.is("talk(3, 3)", x.talk(3, 3), BAD);
    }

    private static void talkAll() {
        due.says(0, "whether (1, 0) all from the one to the other one are not BARRED, themselves too.");
        for (int barred = 0; barred < 5; barred++) {
            LeftAlone x = Due.of("d1,0;m0,0;m0,0;m0,0;m0,0;m0,0;p0,1,0;");
            x.bar(barred, 1);
            for (int man = 0; man < 5; man++) {
                for (int other = man + 1; other < 5; other++) {
                    int want = man <= barred && barred <= other ? 0 : 1;
                    due.is(man + " and " + other + ", " + barred + " BARRED", x.talk(man, other), want);
                    due.is(other + " and " + man + ", " + barred + " BARRED", x.talk(other, man), want);
                }
            }
            x.bar(barred, 0);
            due.is("nobody BARRED", x.talk(0, 4), 1);
        }
    }

    private static void aloneMost() {
        due.says(31, "ALONE. STATE: no TOWN.");
        due.is("no TOWN", new LeftAlone().alone(), STATE);
        due.says(0, "ALONE: MEN (bits) who FEEL most of all now.");
        due.is("one", Due.of("d1,0;m0,0;p0,1,0;").alone(), 1);
        due.is("all, nothing", Due.of("d1,0;m0,0;m0,0;m0,0;m0,0;m0,0;p0,1,0;").alone(), 31);
        due.is("the last by 1", Due.of("d1,0;m8,0;m9,0;p0,1,0;").alone(), 2);
        due.is("the first by 1", Due.of("d1,0;m9,0;m8,0;p0,1,0;").alone(), 1);
        due.is("two", Due.of("d1,0;m9,0;m8,0;m9,0;p0,1,0;").alone(), 5);
        LeftAlone x = Due.of("d1,0;m8,0;m9,0;p0,1,0;");
        x.days(1);
        due.is("now: 9 and 8", x.alone(), 1);
    }

    private static void fraction(LeftAlone x, int v, int p, long above, long below) {
        due.is("rain(0, " + v + ", " + p + ", 0)", x.rain(0, v, p, 0), above);
        due.is("rain(0, " + v + ", " + p + ", 1)", x.rain(0, v, p, 1), below);
    }

    private static void rainNumbers() {
        due.says(32, "WET: above (what = 0), below (1). BAD.");
        due.is("no TOWN", new LeftAlone().rain(0, 0, 0, 0), BAD);
        LeftAlone x = Due.of("d1,9;m0,0;m0,0;w0,1,0;");
        for (int man : off(0, 1)) {
            due.is("MAN " + man, x.rain(man, 0, 0, 0), BAD);
        }
        for (int v : off(0, 99)) {
            due.is("v " + v, x.rain(0, v, 0, 0), BAD);
        }
        for (int p : off(0, 10)) {
            due.is("p " + p, x.rain(0, 0, p, 0), BAD);
        }
        for (int what : off(0, 1)) {
            due.is("what " + what, x.rain(0, 0, 0, what), BAD);
        }
        fraction(x, 0, 0, 1, 1);
        fraction(x, 0, 10, 1, 1);
        fraction(x, 99, 0, 0, 1);
        fraction(x, 99, 10, 0, 1);
        due.is("MAN 1", x.rain(1, 0, 5, 0), 1);
        due.is("MAN 1, 1", x.rain(1, 1, 5, 0), 0);
    }

    private static void rainLowestTerms() {
        due.says(0, "fractions, told as two numbers in lowest terms (0 is 0 by 1).");
        int[][] parts = {{1, 1}, {9, 10}, {4, 5}, {7, 10}, {3, 5}, {1, 2}, {2, 5}, {3, 10}, {1, 5},
            {1, 10}, {0, 1}};
        LeftAlone x = Due.of("d1,9;m0,0;w0,1,0;");
        for (int p = 0; p <= 10; p++) {
            fraction(x, 2, p, parts[p][0], parts[p][1]);
            fraction(x, 3, p, 0, 1);
            fraction(x, 0, p, 1, 1);
        }
        // Two: one of them at least, both.
        LeftAlone y = Due.of("d1,9;m0,0;w0,1,0;w0,1,0;");
        fraction(y, 2, 5, 3, 4);
        fraction(y, 4, 5, 1, 4);
        fraction(y, 2, 1, 99, 100);
        fraction(y, 4, 1, 81, 100);
        // Six: all of them, one at least.
        LeftAlone z = Due.of("d1,9;m0,0;" + "w0,1,0;".repeat(6));
        fraction(z, 12, 5, 1, 64);
        fraction(z, 1, 5, 63, 64);
        fraction(z, 12, 9, 1, 1000000);
        fraction(z, 1, 9, 468559, 1000000);
        fraction(z, 12, 0, 1, 1);
        fraction(z, 1, 10, 0, 1);
        fraction(z, 13, 0, 0, 1);
        // Nobody in the wet.
        LeftAlone none = Due.of("d1,9;m0,0;i0,1,0;p0,1,0;");
        fraction(none, 2, 10, 1, 1);
        fraction(none, 3, 10, 0, 1);
    }

    private static void rainOrMore() {
        due.says(0, "how likely a MAN FEELS v (0 to 99) or more behind it: a fraction.");
        LeftAlone x = Due.of("d9,9;m60,0;w0,9,0;");
        fraction(x, 59, 5, 1, 1);
        fraction(x, 60, 5, 1, 2);
        fraction(x, 78, 5, 1, 2);
        fraction(x, 79, 5, 0, 1);
        // 99 at most is felt, and 0 at least.
        x.days(2);
        fraction(x, 99, 4, 3, 5);
        fraction(x, 98, 4, 3, 5);
        due.is("96", x.man(0, 0), 96);
        fraction(x, 95, 4, 1, 1);
        LeftAlone y = Due.of("d9,0;m5,9;w0,9,0;");
        // With him he is USED to it: 0; without him 4.
        fraction(y, 0, 3, 1, 1);
        fraction(y, 1, 3, 3, 10);
        fraction(y, 4, 3, 3, 10);
        fraction(y, 5, 3, 0, 1);
        due.says(0, "on this DAY each LEAVER in the wet is sent home in p of 10 cases, apart");
        // One in the wet at another house tells nothing here.
        LeftAlone z = Due.of("d1,9;m0,0;m0,0;w0,1,0;w1,1,0;");
        fraction(z, 2, 1, 9, 10);
        due.is("MAN 1", z.rain(1, 2, 1, 0), 9);
    }

    private static void drawnNumbers() {
        due.says(33, "YEARS by a SEED (1 to 999999): FEELS (what = 0), on how many (1). BAD; STATE: no TOWN (ahead of BAD).");
        LeftAlone none = new LeftAlone();
        due.is("no TOWN", none.drawn(0, 1, 0), STATE);
        due.is("no TOWN, n -1", none.drawn(-1, 1, 0), STATE);
        due.is("no TOWN, seed 0", none.drawn(0, 0, 0), STATE);
        due.is("no TOWN, what 2", none.drawn(0, 1, 2), STATE);
        LeftAlone x = Due.of("d1,0;m3,9;m4,0;p0,1,0;");
        for (int n : off(0, 60)) {
            due.is("n " + n, x.drawn(n, 1, 0), BAD);
        }
        for (int seed : off(1, 999999)) {
            due.is("seed " + seed, x.drawn(0, seed, 0), BAD);
        }
        for (int what : off(0, 1)) {
            due.is("what " + what, x.drawn(0, 1, what), BAD);
        }
        due.is("no DAY", x.drawn(0, 999999, 0), 7);
        due.is("no DAY: on none", x.drawn(0, 999999, 1), 0);
        due.is("one DAY, nobody SENT", x.drawn(1, 1, 0), 2 + 3);
        due.is("one DAY, nobody SENT: on one", x.drawn(1, 1, 1), 1);
    }

    /** YEARS by ACTS: what drawn() foretells is done, DAY by DAY, and looked at. */
    private static void drawnBySeed() {
        due.says(0, "X becomes the rest of (X times 16807) by 2147483647; if X by 4 leaves 0");
        String text = "d2,4;m10,3;m5,0;m60,9;f0,3,1;p1,4,2;w2,5,0;s0,9,0;i1,1,0;";
        for (int seed : new int[] {1, 2, 3, 4, 1000, 127773, 127774, 999998, 999999}) {
            LeftAlone x = Due.of(text);
            LeftAlone y = Due.of(text);
            long drawn = seed;
            int usedDays = 0;
            for (int n = 0; n <= 60; n++) {
                due.is("FEELS, " + n + " DAYS by " + seed, x.drawn(n, seed, 0), y.count(4));
                due.is("on how many, " + n + " DAYS by " + seed, x.drawn(n, seed, 1), usedDays);
                drawn = drawn * 16807 % 2147483647L;
                if (drawn % 4 == 0) {
                    y.send((int) (drawn % 5), (int) (drawn % 3));
                }
                usedDays += y.usual(0, 1) + y.usual(1, 1) + y.usual(2, 1) > 0 ? 1 : 0;
                y.days(1);
            }
        }
    }

    private static void drawnOfOne() {
        due.says(0, "the LEAVER who is the rest of X by how many there are is SENT to the house that is the rest of X by how many there are");
        // From 4 X is 67228, which 4 parts: by 5 it leaves 3, by 1 nothing.
        LeftAlone x = Due.of("d1,0;m0,0;m0,0;m0,0;m0,0;m0,0;p0,4,0;");
        due.is("one LEAVER alone is SENT", x.drawn(1, 4, 0), 4);
        x.patience(3, 9);
        due.is("one LEAVER alone is SENT to 3", x.drawn(1, 4, 0), 0);
        due.is("one LEAVER alone is SENT to 3, USED", x.drawn(1, 4, 1), 1);
        // From 1 X is 16807, which 4 does not part.
        due.is("nobody is SENT", x.drawn(1, 1, 0), 4);
        LeftAlone y = Due.of("d1,0;m0,0;f0,1,0;");
        y.days(3);
        due.is("FEELS", y.count(4), 6);
        due.is("nobody is SENT: 4 more", y.drawn(1, 1, 0), 10);
        due.is("SENT to the one house there is, anew: 1 more", y.drawn(1, 4, 0), 7);
        due.is("times stay", y.leaver(0, 5), 3);
        LeftAlone z = Due.of("d1,0;m0,0;m0,0;p0,4,0;p0,4,0;p0,4,0;p0,4,0;p0,4,0;p0,4,0;");
        z.patience(0, 9);
        // By 6 it leaves 4, by 2 nothing: LEAVER 4 goes where he is.
        due.is("one of six", z.drawn(1, 4, 0), 24);
    }

    private static void images() {
        due.says(34, "An IMAGE (0, 1) is kept of the TOWN: 1. BAD; STATE: no TOWN.");
        LeftAlone x = new LeftAlone();
        for (int k : off(0, 1)) {
            due.is("no TOWN, image(" + k + ")", x.image(k), BAD);
        }
        due.is("no TOWN, image(0)", x.image(0), STATE);
        due.is("no TOWN, image(1)", x.image(1), STATE);
        due.is("none was kept by it", x.restore(0), STATE);
        Due.read(x, "d1,0;m3,9;p0,1,0;");
        for (int k : off(0, 1)) {
            due.is("image(" + k + ")", x.image(k), BAD);
        }
        due.is("image(0)", x.image(0), 1);
        x.days(1);
        due.is("image(1)", x.image(1), 1);
        x.days(1);
        due.is("image(1) in place of it", x.image(1), 1);
        x.days(1);
        due.is("ACTS stay", x.count(6), 3);
        due.is("restore(0)", x.restore(0), 1);
        due.is("DAY 0", x.count(3), 0);
        due.is("restore(1)", x.restore(1), 1);
        due.is("DAY 2", x.count(3), 2);
    }

    private static void noneKept() {
        due.says(35, "The TOWN is as an IMAGE kept it (no ACT can be undone then): 1. BAD; STATE: none was kept.");
        LeftAlone x = new LeftAlone();
        for (int k : off(0, 1)) {
            due.is("restore(" + k + ")", x.restore(k), BAD);
        }
        due.is("restore(0)", x.restore(0), STATE);
        due.is("restore(1)", x.restore(1), STATE);
        Due.read(x, "d1,0;m3,9;p0,1,0;");
        due.is("a TOWN: restore(0)", x.restore(0), STATE);
        x.image(1);
        due.is("the other one: restore(0)", x.restore(0), STATE);
        due.is("restore(1)", x.restore(1), 1);
        due.is("restore(1) again", x.restore(1), 1);
        due.is("restore(0)", x.restore(0), STATE);
    }

    private static void noActThen() {
        due.says(35, "no ACT can be undone then");
        LeftAlone x = Due.of("d2,0;m3,9;m4,0;f0,1,0;p1,2,0;");
        x.days(2);
        x.bar(0, 1);
        x.patience(1, 5);
        x.image(0);
        x.days(3);
        x.send(0, 1);
        x.weight(1, 9);
        x.bar(0, 0);
        x.patience(1, 6);
        due.is("ACTS", x.count(6), 11);
        due.is("restore(0)", x.restore(0), 1);
        due.is("no ACT", x.count(6), 0);
        due.is("undo()", x.undo(), STATE);
        due.is("DAY", x.count(3), 2);
        due.is("BARRED", x.count(5), 1);
        due.is("PATIENCE", x.man(1, 1), 5);
        due.is("HOUSE", x.leaver(0, 0), 0);
        due.is("times", x.leaver(0, 5), 2);
        due.is("WEIGHT", x.leaver(1, 1), 2);
        due.is("FEELS", x.count(4), 0 + 8);
        x.weight(1, 3);
        due.is("an ACT then", x.count(6), 1);
        due.is("it is undone", x.undo(), 0);
        due.is("WEIGHT as restored", x.leaver(1, 1), 2);
        due.is("no more", x.undo(), STATE);
        // Another TOWN leaves the IMAGES as they are.
        Due.read(x, "d1,0;m60,0;p0,1,0;");
        due.is("restore(0) behind another TOWN", x.restore(0), 1);
        due.is("MEN", x.count(1), 2);
        due.is("LEAVERS", x.count(2), 2);
    }
}
