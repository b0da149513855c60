/** Promises 25 to 28, what fits a row: each sentence that names an edge, on both sides of it. */
public final class EdgesOfFittingTest {
    private static final int NULL = -1000011, PLACE = -1000012, BAD = LeftAlone.BAD;
    private static final int LEAST = Integer.MIN_VALUE, MOST = Integer.MAX_VALUE;
    private static final int WHO = 25, HOUSES = 26, WEIGHTS = 27, ABSENT = 28;
    private static final int[] CALLS = {WHO, HOUSES, WEIGHTS, ABSENT};
    private static final String[] NAMES = {"who", "houses", "weights", "absent"};
    private static final Due due = new Due("EdgesOfFittingTest");

    public static void main(String[] args) {
        for (int call : CALLS) {
            noTown(call);
            numbers(call);
            missing(call);
            places(call);
            order(call);
            found(call);
            lanes(call);
            eachDay(call);
        }
        twelveDays();
        kinds();
        kindsKeepTimes();
        houses();
        housesSentNow();
        weights();
        absent();
        asItIs();
        due.end();
    }

    /** One of the four calls; absent knows no LEAVER, so that a wrong one is left to the others. */
    private static int ask(LeftAlone x, int call, int leaver, int man, int row, int i, int n) {
        switch (call) {
            case WHO: return x.who(leaver, man, row, i, n);
            case HOUSES: return x.houses(leaver, man, row, i, n);
            case WEIGHTS: return x.weights(leaver, man, row, i, n);
            default: return x.absent(man, row, i, n);
        }
    }

    private static void is(String what, int call, int got, int want) {
        due.is(NAMES[call - WHO] + ": " + what, got, want);
    }

    private static void says(int call) {
        due.says(call, call == ABSENT ? "n ITEMS of a ROW from i on. BAD: MAN, ROW, n; NULL; PLACE."
                : "n ITEMS of a ROW from i on. BAD: LEAVER, MAN, ROW, n; NULL; PLACE.");
    }

    /** MEN FEEL nothing for ever, so that a ROW of 0 fits, by each KIND, HOUSE and WEIGHT there is. */
    private static LeftAlone still() {
        LeftAlone x = Due.of("d9,0;m0,9;m0,9;m0,9;s0,1,1;s1,1,1;");
        x.row(0, 0, 12);
        x.row(1, 1, 40);
        x.row(7, 2, 13);
        return x;
    }

    private static int allOf(int call) {
        return call == WHO ? 0b111110 : call == HOUSES ? 0b111 : call == WEIGHTS ? 0b1111111110 : 64 + 3;
    }

    private static void noTown(int call) {
        says(call);
        LeftAlone x = new LeftAlone();
        is("no TOWN, no ROW", call, ask(x, call, 0, 0, 0, 0, 1), BAD);
        x.row(0, 2, 12);
        is("no TOWN", call, ask(x, call, 0, 0, 0, 0, 1), BAD);
        is("no TOWN, no such place", call, ask(x, call, 0, 0, 0, 12, 1), BAD);
    }

    private static void numbers(int call) {
        says(call);
        LeftAlone x = still();
        if (call != ABSENT) {
            for (int leaver : new int[] {LEAST, -1, 2, MOST}) {
                is("LEAVER " + leaver, call, ask(x, call, leaver, 0, 0, 0, 1), BAD);
            }
        }
        for (int man : new int[] {LEAST, -1, 3, MOST}) {
            is("MAN " + man, call, ask(x, call, 0, man, 0, 0, 1), BAD);
        }
        for (int row : new int[] {LEAST, -1, 8, MOST}) {
            is("ROW " + row, call, ask(x, call, 0, 0, row, 0, 1), BAD);
        }
        for (int n : new int[] {LEAST, -1, 0, 13, MOST}) {
            is("n " + n, call, ask(x, call, 0, 0, 0, 0, n), BAD);
            is("n " + n + " in a longer ROW", call, ask(x, call, 0, 0, 1, 0, n), BAD);
        }
        is("the last LEAVER, the last MAN, the last ROW", call, ask(x, call, 1, 2, 7, 0, 1), allOf(call));
        is("the first of all", call, ask(x, call, 0, 0, 0, 0, 1), allOf(call));
        is("n 12", call, ask(x, call, 0, 0, 0, 0, 12), allOf(call));
    }

    private static void missing(int call) {
        says(call);
        LeftAlone x = still();
        for (int row = 2; row <= 6; row++) {
            is("missing ROW " + row, call, ask(x, call, 0, 0, row, 0, 1), NULL);
        }
        is("there", call, ask(x, call, 0, 0, 0, 0, 1), allOf(call));
        x.drop(0);
        is("dropped", call, ask(x, call, 0, 0, 0, 0, 1), NULL);
        is("NULL ahead of PLACE: below", call, ask(x, call, 0, 0, 0, -1, 1), NULL);
        is("NULL ahead of PLACE: beyond", call, ask(x, call, 0, 0, 0, 40, 12), NULL);
    }

    private static void places(int call) {
        says(call);
        LeftAlone x = still();
        is("i, least", call, ask(x, call, 0, 0, 0, LEAST, 1), PLACE);
        is("i -1", call, ask(x, call, 0, 0, 0, -1, 1), PLACE);
        is("i -1, 12 of them", call, ask(x, call, 0, 0, 0, -1, 12), PLACE);
        is("i 11", call, ask(x, call, 0, 0, 0, 11, 1), allOf(call));
        is("i 12", call, ask(x, call, 0, 0, 0, 12, 1), PLACE);
        is("i 11, 2 of them", call, ask(x, call, 0, 0, 0, 11, 2), PLACE);
        is("i 10, 2 of them", call, ask(x, call, 0, 0, 0, 10, 2), allOf(call));
        is("i 1, 12 of 12", call, ask(x, call, 0, 0, 0, 1, 12), PLACE);
        is("i 1, 12 of 13", call, ask(x, call, 0, 0, 7, 1, 12), allOf(call));
        is("i 2, 12 of 13", call, ask(x, call, 0, 0, 7, 2, 12), PLACE);
        is("i 28, 12 of 40", call, ask(x, call, 0, 0, 1, 28, 12), allOf(call));
        is("i 29, 12 of 40", call, ask(x, call, 0, 0, 1, 29, 12), PLACE);
        is("i, most", call, ask(x, call, 0, 0, 1, MOST, 1), PLACE);
        is("i, most, 12 of them", call, ask(x, call, 0, 0, 1, MOST, 12), PLACE);
        x.row(0, 0, 0);
        is("no ITEMS", call, ask(x, call, 0, 0, 0, 0, 1), PLACE);
        x.row(0, 0, 1);
        is("one ITEM", call, ask(x, call, 0, 0, 0, 0, 1), allOf(call));
        is("one ITEM, 2 of it", call, ask(x, call, 0, 0, 0, 0, 2), PLACE);
    }

    private static void order(int call) {
        says(call);
        LeftAlone x = still();
        is("n 0 of a missing ROW", call, ask(x, call, 0, 0, 3, 0, 0), BAD);
        is("n 13 of a missing ROW", call, ask(x, call, 0, 0, 3, 0, 13), BAD);
        is("n 13, no such place", call, ask(x, call, 0, 0, 0, 5, 13), BAD);
        is("n 0, no such place", call, ask(x, call, 0, 0, 0, -1, 0), BAD);
        is("MAN 3, a missing ROW", call, ask(x, call, 0, 3, 3, 0, 1), BAD);
        is("MAN 3, no such place", call, ask(x, call, 0, 3, 0, 12, 1), BAD);
        if (call != ABSENT) {
            is("LEAVER 2, a missing ROW", call, ask(x, call, 2, 0, 3, 0, 1), BAD);
            is("LEAVER 2, no such place", call, ask(x, call, 2, 0, 0, 12, 1), BAD);
        }
        is("nothing was found", call, x.status(), 0);
    }

    private static void found(int call) {
        due.says(41, "Of the latest call with a ROW, or as(), that was not BAD, STATE, FULL: the number of its FINDING; 0: it had none");
        LeftAlone x = still();
        ask(x, call, 0, 0, 3, 0, 1);
        is("NULL", call, x.status(), 1);
        ask(x, call, 0, 0, 3, 0, 0);
        is("BAD: NULL yet", call, x.status(), 1);
        ask(x, call, 0, 0, 0, 12, 1);
        is("PLACE", call, x.status(), 2);
        ask(x, call, 0, 3, 0, 0, 1);
        is("BAD: PLACE yet", call, x.status(), 2);
        ask(x, call, 0, 0, 0, 0, 1);
        is("none", call, x.status(), 0);
        ask(x, call, 0, 0, 0, 12, 1);
        x.set(0, 0, 77);
        ask(x, call, 0, 0, 0, 12, 1);
        is("what fits nothing", call, ask(x, call, 0, 0, 0, 0, 1), 0);
        is("what fits nothing has no FINDING", call, x.status(), 0);
    }

    private static void lanes(int call) {
        due.says(0, "A row tells FEELS of a MAN behind each of n DAYS (1 to 12) from now on.");
        LeftAlone x = still();
        for (int lane = 0; lane <= 2; lane++) {
            x.row(2, lane, 3);
            is("LANE " + lane, call, ask(x, call, 0, 0, 2, 0, 3), allOf(call));
            x.set(2, 1, 1);
            is("LANE " + lane + ", 1", call, ask(x, call, 0, 0, 2, 0, 3), 0);
            x.set(2, 1, 256);
            is("LANE " + lane + ", 256", call, ask(x, call, 0, 0, 2, 0, 3), lane == 0 ? allOf(call) : 0);
            x.set(2, 1, 65536);
            is("LANE " + lane + ", 65536", call, ask(x, call, 0, 0, 2, 0, 3), lane < 2 ? allOf(call) : 0);
            x.set(2, 1, -1);
            is("LANE " + lane + ", -1", call, ask(x, call, 0, 0, 2, 0, 3), 0);
        }
    }

    private static void eachDay(int call) {
        due.says(0, "behind each of n DAYS (1 to 12) from now on");
        for (int n = 1; n <= 12; n++) {
            for (int wrong = 0; wrong <= 13; wrong++) {
                LeftAlone x = still();
                x.row(2, 0, 14);
                x.set(2, wrong, 1);
                // ITEMS 1 .. n are looked at; those beside them are not.
                boolean within = wrong >= 1 && wrong <= n;
                is(n + " DAYS, ITEM " + wrong, call, ask(x, call, 0, 0, 2, 1, n), within ? 0 : allOf(call));
            }
        }
    }

    private static void twelveDays() {
        due.says(0, "n DAYS (1 to 12) from now on");
        // 1 more each DAY by WEIGHT 1 alone: each DAY counts, the first as the last.
        LeftAlone x = Due.of("d1,0;m0,0;p0,1,0;");
        x.days(3);
        Due.tell(x, 4, 5, 6, 7, 8, 9, 10, 11, 12, 13, 14, 15);
        due.is("weights, 12", x.weights(0, 0, 7, 0, 12), 1 << 1);
        due.is("weights, 1", x.weights(0, 0, 7, 0, 1), 1 << 1);
        due.is("who, 12", x.who(0, 0, 7, 0, 12), 1 << 1);
        due.is("houses, 12", x.houses(0, 0, 7, 0, 12), 1);
        due.is("absent, 12", x.absent(0, 7, 0, 12), 64);
        x.set(7, 11, 16);
        due.is("the last DAY is not so", x.weights(0, 0, 7, 0, 12), 0);
        due.is("the last DAY left out", x.weights(0, 0, 7, 0, 11), 1 << 1);
        x.set(7, 0, 3);
        due.is("what is felt now is no part of it", x.weights(0, 0, 7, 0, 1), 0);
    }

    private static void kinds() {
        due.says(0, "KINDS (bits 1 to 5) of a LEAVER by which it is so");
        // DAYS 0 .. 2 by RAIN 5: p 4 4 4; f 4 5 6; s 2 2 2; i 4 0 0; w 8 0 8.
        for (String sort : new String[] {"p", "f", "s", "i", "w"}) {
            LeftAlone x = Due.of("d1,5;m10,0;" + sort + "0,4,0;");
            Due.tell(x, 14, 18, 22);
            due.is("p", x.who(0, 0, 7, 0, 3), 1 << 1);
            Due.tell(x, 14, 19, 25);
            due.is("f", x.who(0, 0, 7, 0, 3), 1 << 2);
            Due.tell(x, 12, 14, 16);
            due.is("s", x.who(0, 0, 7, 0, 3), 1 << 3);
            Due.tell(x, 14, 13, 12);
            due.is("i", x.who(0, 0, 7, 0, 3), 1 << 4);
            Due.tell(x, 18, 17, 25);
            due.is("w", x.who(0, 0, 7, 0, 3), 1 << 5);
            Due.tell(x, 10, 10, 10);
            due.is("none", x.who(0, 0, 7, 0, 3), 0);
            Due.tell(x, 14);
            due.is("p, f, i", x.who(0, 0, 7, 0, 1), 1 << 1 | 1 << 2 | 1 << 4);
        }
        // A MAN from whose house he is not away tells nothing of his KIND.
        LeftAlone y = Due.of("d1,5;m10,0;m10,0;p0,4,0;");
        Due.tell(y, 9);
        due.is("all of them", y.who(0, 1, 7, 0, 1), 0b111110);
    }

    private static void kindsKeepTimes() {
        due.says(25, "KINDS, n ITEMS of a ROW from i on.");
        LeftAlone x = Due.of("d1,0;m0,0;p0,1,0;");
        x.days(4);
        // 4 times away: a faithful one MAKES 5 felt, then 6.
        Due.tell(x, 4 + 5, 4 + 5 + 6);
        due.is("f", x.who(0, 0, 7, 0, 2), 1 << 2);
        x.days(8);
        Due.tell(x, 12 + 10, 12 + 20);
        due.is("f, 9 more at most", x.who(0, 0, 7, 0, 2), 1 << 2);
        due.is("KIND stays", x.kind(0), 1);
    }

    private static void houses() {
        due.says(0, "HOUSES (bits) of him, by which it is so (SENT now)");
        for (int men = 1; men <= 5; men++) {
            for (int house = 0; house < men; house++) {
                LeftAlone x = Due.of("d1,0;" + "m10,0;".repeat(men) + "p" + house + ",3,0;");
                Due.tell(x, 13, 16);
                for (int man = 0; man < men; man++) {
                    due.is("the house of MAN " + man, x.houses(0, man, 7, 0, 2), 1 << man);
                }
                Due.tell(x, 9, 8);
                for (int man = 0; man < men; man++) {
                    due.is("all but that of MAN " + man, x.houses(0, man, 7, 0, 2), (1 << men) - 1 - (1 << man));
                }
                Due.tell(x, 10, 10);
                due.is("none", x.houses(0, 0, 7, 0, 2), 0);
            }
        }
    }

    private static void housesSentNow() {
        due.says(26, "HOUSES, n ITEMS of a ROW from i on.");
        LeftAlone x = Due.of("d1,0;m0,0;m0,0;m0,0;f0,1,1;");
        x.days(3);
        // 1, 1, 1 less 2, 1, 0 DAYS: 0, 0, 1. On DAY 3 he is away from his HOUSE, once, if not SENT.
        due.is("times", x.leaver(0, 5), 1);
        due.is("MAN 0", x.man(0, 0), 0);
        Due.tell(x, 1);
        due.is("SENT to 0 he MAKES 1 felt", x.houses(0, 0, 7, 0, 1), 1);
        Due.tell(x, 2);
        due.is("not 2", x.houses(0, 0, 7, 0, 1), 0);
        due.is("not SENT: 2", x.ahead(0, 1), 2);
        // MAN 0 by PACE 1 on DAYS 3, 4, 5: houses 0, 2, 1.
        Due.tell(x, 0, 1);
        due.is("SENT to 2", x.houses(0, 0, 7, 0, 2), 4);
        Due.tell(x, 0, 0, 1);
        due.is("SENT to 1", x.houses(0, 0, 7, 0, 3), 2);
        due.is("HOUSE stays", x.leaver(0, 0), 0);
        due.is("times stay", x.leaver(0, 5), 1);
    }

    private static void weights() {
        due.says(0, "WEIGHTS (1 to 9, bits) by which it is so.");
        LeftAlone x = Due.of("d1,0;m10,0;p0,4,0;");
        for (int weight = 0; weight <= 10; weight++) {
            Due.tell(x, 10 + weight);
            due.is("WEIGHT " + weight, x.weights(0, 0, 7, 0, 1), weight >= 1 && weight <= 9 ? 1 << weight : 0);
        }
        due.is("WEIGHT stays", x.leaver(0, 1), 4);
        LeftAlone y = Due.of("d1,0;m10,0;s0,4,0;");
        Due.tell(y, 14);
        due.is("8 and 9, cut", y.weights(0, 0, 7, 0, 1), 1 << 8 | 1 << 9);
        Due.tell(y, 9);
        due.is("1 alone: nothing, and USED", y.weights(0, 0, 7, 0, 1), 1 << 1);
        LeftAlone z = Due.of("d1,0;m10,5;p0,4,0;");
        Due.tell(z, 9);
        due.is("1 to 5: not more than PATIENCE", z.weights(0, 0, 7, 0, 1), 0b111110);
        Due.tell(z, 16);
        due.is("6", z.weights(0, 0, 7, 0, 1), 1 << 6);
    }

    private static void absent() {
        due.says(0, "ABSENT: such a row: LEAVERS (bits), one of whom, sent home, makes it so");
        LeftAlone x = Due.of("d1,0;m10,0;p0,1,0;p0,2,0;p0,3,0;p0,4,0;p0,5,0;p0,6,0;");
        for (int one = 0; one < 6; one++) {
            Due.tell(x, 31 - 1 - one, 52 - 2 - 2 * one);
            due.is("without " + one, x.absent(0, 7, 0, 2), 1 << one);
        }
        // Two of them, sent home both, are not one.
        Due.tell(x, 31 - 6 - 1);
        due.is("two at once", x.absent(0, 7, 0, 1), 0);
        LeftAlone y = Due.of("d1,0;m10,0;m10,0;p0,2,0;p0,2,0;p1,9,0;");
        Due.tell(y, 12);
        due.is("one or the other", y.absent(0, 7, 0, 1), 3);
        Due.tell(y, 9);
        due.is("MAN 1 without 2", y.absent(1, 7, 0, 1), 4);
    }

    private static void asItIs() {
        due.says(0, "64 more, if it is so as it is.");
        LeftAlone x = Due.of("d1,0;m10,0;m10,0;p0,2,0;p0,3,0;p1,9,0;");
        Due.tell(x, 15);
        due.is("as it is, and without LEAVER 2", x.absent(0, 7, 0, 1), 64 + 4);
        Due.tell(x, 13);
        due.is("without LEAVER 0", x.absent(0, 7, 0, 1), 1);
        Due.tell(x, 19);
        due.is("MAN 1: as it is, without 0, without 1", x.absent(1, 7, 0, 1), 64 + 3);
        Due.tell(x, 14);
        due.is("not at all", x.absent(0, 7, 0, 1), 0);
        LeftAlone one = Due.of("d1,0;m10,0;p0,2,0;");
        Due.tell(one, 12);
        due.is("as it is alone", one.absent(0, 7, 0, 1), 64);
        Due.tell(one, 9);
        due.is("without him alone", one.absent(0, 7, 0, 1), 1);
    }
}
