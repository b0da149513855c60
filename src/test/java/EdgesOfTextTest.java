/** Promises 6 to 8, and TEXTS: each sentence that names an edge, on both sides of it. */
public final class EdgesOfTextTest {
    private static final int BAD = LeftAlone.BAD, FULL = LeftAlone.FULL, STATE = LeftAlone.STATE;
    private static final int LEAST = Integer.MIN_VALUE, MOST = Integer.MAX_VALUE;
    private static final String LAW = "d1,0;", MAN = "m0,0;", ONE = "p0,1,0;";
    private static final Due due = new Due("EdgesOfTextTest");

    public static void main(String[] args) {
        bytes();
        fullTape();
        oneByOne();
        nothingElse();
        twoFigures();
        threeFigures();
        law();
        men();
        leavers();
        housesWithMen();
        mostMen();
        mostLeavers();
        oneAtLeast();
        endOfTape();
        firstToken();
        leastOfOneToken();
        emptyThen();
        allStays();
        inPlace();
        inPlaceBehindForetold();
        latestFault();
        due.end();
    }

    private static void reads(String text, int leavers) {
        LeftAlone x = new LeftAlone();
        due.is("town of '" + text + "'", Due.read(x, text), leavers);
        due.is("fault of '" + text + "'", x.fault(), 0);
        due.is("LEAVERS of '" + text + "'", x.count(2), leavers);
    }

    private static void faulty(String text, int place, int number) {
        LeftAlone x = new LeftAlone();
        due.is("town of '" + text + "'", Due.read(x, text), -1000100 - place);
        due.is("fault of '" + text + "'", x.fault(), number);
        due.is("MEN of '" + text + "'", x.count(1), 0);
        due.is("LEAVERS of '" + text + "'", x.count(2), 0);
    }

    private static void bytes() {
        due.says(6, "A byte (0 to 255) comes behind the tape: how many it has. BAD; FULL.");
        LeftAlone x = new LeftAlone();
        for (int letter : new int[] {LEAST, -1, 256, MOST}) {
            due.is("feed(" + letter + ")", x.feed(letter), BAD);
        }
        due.is("nothing came", x.count(7), 0);
        due.is("feed(0)", x.feed(0), 1);
        due.is("feed(255)", x.feed(255), 2);
        due.is("two came", x.count(7), 2);
    }

    private static void fullTape() {
        due.says(0, "THE TAPE has at most 120 bytes");
        LeftAlone x = new LeftAlone();
        for (int i = 1; i <= 120; i++) {
            due.is("byte " + i, x.feed('d'), i);
        }
        due.is("byte 121", x.feed('d'), FULL);
        due.is("BAD ahead of FULL: -1", x.feed(-1), BAD);
        due.is("BAD ahead of FULL: 256", x.feed(256), BAD);
        due.is("byte 121 again", x.feed(0), FULL);
        due.is("120 bytes", x.count(7), 120);
        due.is("the second d cannot stand there", x.town(), -1000101);
        due.is("empty then", x.count(7), 0);
        // A whole TOWN, and figures up to the end of the tape: one long run.
        String text = LAW + MAN + ONE;
        for (int i = 0; i < text.length(); i++) {
            x.feed(text.charAt(i));
        }
        for (int i = text.length() + 1; i <= 120; i++) {
            due.is("byte " + i, x.feed('7'), i);
        }
        due.is("a run up to the end", x.town(), -1000100 - text.length());
        due.is("fault()", x.fault(), 1);
        // The longest text that tells a TOWN.
        reads("d09,09;m60,09;m60,09;m60,09;m60,09;m60,09;"
                + "p04,09,04;p04,09,04;p04,09,04;p04,09,04;p04,09,04;p04,09,04;", 6);
    }

    private static void oneByOne() {
        due.says(0, "that come one by one");
        LeftAlone x = new LeftAlone();
        String text = LAW + MAN + ONE;
        for (int i = 0; i < text.length(); i++) {
            due.is("feed", x.feed(text.charAt(i)), i + 1);
            due.is("count(7)", x.count(7), i + 1);
            due.is("refused ones do not come", x.feed(300), BAD);
        }
        due.is("town()", x.town(), 1);
    }

    /** Each byte at each place of a text: place and number of the FAULT it makes, 0 where it makes none. */
    private static void nothingElse() {
        due.says(0, "letters a to z (each by itself), NUMBERS (figures, 2 at most), SIGNS , and ; nothing else.");
        String text = LAW + MAN + ONE;
        for (int at = 0; at < text.length(); at++) {
            for (int letter = 0; letter <= 255; letter++) {
                String other = text.substring(0, at) + (char) letter + text.substring(at + 1);
                int[] fault = faultBy(at, letter);
                LeftAlone x = new LeftAlone();
                String what = "byte " + letter + " at " + at;
                due.is(what, Due.read(x, other), fault[1] == 0 ? 1 : -1000100 - fault[0]);
                due.is(what + ": fault()", x.fault(), fault[1]);
            }
        }
        for (int letter = 0; letter <= 255; letter++) {
            // A leaver's letter can stand there, and its HOUSE is missing then.
            faulty(text + (char) letter, "pfsiw".indexOf(letter) >= 0 ? 18 : 17, 1);
        }
    }

    private static int[] faultBy(int at, int letter) {
        boolean figure = letter >= '0' && letter <= '9';
        int n = letter - '0';
        int[] none = {0, 0};
        int[] here = {at, 1};
        switch (at) {
            case 0: return letter == 'd' ? none : here;
            case 1: case 13: return !figure ? here : n == 0 ? new int[] {at, 2} : none;
            case 3: case 6: case 8: return figure ? none : here;
            // A figure in place of a sign between figures makes a run of three.
            case 2: case 7: case 12: case 14:
                return letter == ',' ? none : figure ? new int[] {at - 1, 1} : here;
            // A figure in place of a ; makes a NUMBER of two, and the ; is missing behind it.
            case 4: case 9: return letter == ';' ? none : figure ? new int[] {at + 1, 1} : here;
            case 5: return letter == 'm' ? none : here;
            // A man in place of the leaver has a sign too many.
            case 10: return letter == 'm' ? new int[] {14, 1}
                    : "pfsiw".indexOf(letter) >= 0 ? none : here;
            case 11: return !figure ? here : n == 0 ? none : new int[] {at, 2};
            case 15: return !figure ? here : n <= 4 ? none : new int[] {at, 2};
            default: return letter == ';' ? none : !figure ? here
                    : n <= 4 ? new int[] {17, 1} : new int[] {15, 2};
        }
    }

    private static void twoFigures() {
        due.says(0, "NUMBERS (figures, 2 at most)");
        reads("d01,00;m00,00;p00,01,00;", 1);
        reads("d09,09;m09,09;p00,09,04;", 1);
        reads(LAW + "m60,0;" + ONE, 1);
        faulty("d10,0;" + MAN + ONE, 1, 2);
        faulty("d99,0;" + MAN + ONE, 1, 2);
        LeftAlone x = new LeftAlone();
        Due.read(x, "d1,0;m07,08;p00,06,03;");
        due.is("07", x.man(0, 0), 7);
        due.is("08", x.man(0, 1), 8);
        due.is("06", x.leaver(0, 1), 6);
        due.is("03", x.leaver(0, 2), 3);
        Due.read(x, "d1,0;m10,0;p0,1,0;");
        due.is("10", x.man(0, 0), 10);
        due.is("none of them has a FAULT", x.fault(), 0);
    }

    private static void threeFigures() {
        due.says(0, "a run of three figures, at its first");
        faulty("d001,0;" + MAN + ONE, 1, 1);
        faulty("d100,0;" + MAN + ONE, 1, 1);
        faulty("d1,000;" + MAN + ONE, 3, 1);
        faulty(LAW + "m000,0;" + ONE, 6, 1);
        faulty(LAW + "m600,0;" + ONE, 6, 1);
        faulty(LAW + "m0,009;" + ONE, 8, 1);
        faulty(LAW + MAN + "p000,1,0;", 11, 1);
        faulty(LAW + MAN + "p0,001,0;", 13, 1);
        faulty(LAW + MAN + "p0,1,000;", 15, 1);
        faulty("d0001,0;" + MAN + ONE, 1, 1);
        faulty("d4294967297,0;" + MAN + ONE, 1, 1);
        faulty("d1000001,0;" + MAN + ONE, 1, 1);
        faulty(LAW + MAN + ONE + "000", 17, 1);
        faulty("123", 0, 1);
    }

    private static void law() {
        due.says(0, "law: d USED , RAIN ; (1 to 9; 0 to 9).");
        for (int n = 0; n <= 11; n++) {
            if (n >= 1 && n <= 9) {
                reads("d" + n + ",0;" + MAN + ONE, 1);
            } else {
                faulty("d" + n + ",0;" + MAN + ONE, 1, 2);
            }
            if (n <= 9) {
                reads("d1," + n + ";" + MAN + ONE, 1);
            } else {
                faulty("d1," + n + ";" + MAN + ONE, 3, 2);
            }
        }
        faulty("d1,99;" + MAN + ONE, 3, 2);
        faulty(LAW + LAW + MAN + ONE, 5, 1);
        faulty(MAN + ONE, 0, 1);
    }

    private static void men() {
        due.says(0, "man: m FEELS , PATIENCE ; (0 to 60; 0 to 9;");
        for (int n = 0; n <= 99; n++) {
            if (n <= 60) {
                reads(LAW + "m" + n + ",0;" + ONE, 1);
            } else {
                faulty(LAW + "m" + n + ",0;" + ONE, 6, 2);
            }
            if (n <= 9) {
                reads(LAW + "m0," + n + ";" + ONE, 1);
            } else {
                faulty(LAW + "m0," + n + ";" + ONE, 8, 2);
            }
        }
        LeftAlone x = Due.of(LAW + "m60,9;m0,0;m59,8;" + ONE);
        due.is("FEELS 60", x.man(0, 0), 60);
        due.is("PATIENCE 9", x.man(0, 1), 9);
        due.is("FEELS 0", x.man(1, 0), 0);
        due.is("PATIENCE 0", x.man(1, 1), 0);
        due.is("FEELS 59", x.man(2, 0), 59);
        due.is("PATIENCE 8", x.man(2, 1), 8);
    }

    private static void leavers() {
        due.says(0, "a house where a MAN is; 1 to 9; 0 to 4;");
        for (int n = 0; n <= 99; n++) {
            if (n == 0) {
                reads(LAW + MAN + "f" + n + ",1,0;", 1);
            } else {
                faulty(LAW + MAN + "f" + n + ",1,0;", 11, 2);
            }
            if (n >= 1 && n <= 9) {
                reads(LAW + MAN + "i0," + n + ",0;", 1);
            } else {
                faulty(LAW + MAN + "i0," + n + ",0;", 13, 2);
            }
            if (n <= 4) {
                reads(LAW + MAN + "w0,1," + n + ";", 1);
            } else {
                faulty(LAW + MAN + "w0,1," + n + ";", 15, 2);
            }
        }
        LeftAlone x = Due.of(LAW + MAN + "s0,9,4;w0,1,0;");
        due.is("WEIGHT 9", x.leaver(0, 1), 9);
        due.is("PACE 4", x.leaver(0, 2), 4);
        due.is("WEIGHT 1", x.leaver(1, 1), 1);
        due.is("PACE 0", x.leaver(1, 2), 0);
    }

    private static void housesWithMen() {
        due.says(0, "a house where a MAN is");
        for (int men = 1; men <= 5; men++) {
            String text = LAW + MAN.repeat(men);
            for (int house = 0; house <= 9; house++) {
                String one = "p" + house + ",1,0;";
                if (house < men) {
                    reads(text + one, 1);
                    LeftAlone x = Due.of(text + one);
                    due.is("HOUSE", x.leaver(0, 0), house);
                    due.is("away from it", x.man(house, 3), 1);
                } else {
                    faulty(text + one, text.length() + 1, 2);
                    faulty(text + ONE + one, text.length() + 8, 2);
                }
            }
        }
    }

    private static void mostMen() {
        due.says(0, "MEN 0 .. 4, 5 at most, in houses 0, 1, .. in a row");
        for (int men = 1; men <= 5; men++) {
            LeftAlone x = Due.of(LAW + MAN.repeat(men) + ONE);
            due.is("MEN", x.count(1), men);
            due.is("the last", x.man(men - 1, 0), 0);
            due.is("one more", x.man(men, 0), BAD);
        }
        due.says(0, "3 a man, a leaver more than there is room for (its letter).");
        String five = LAW + MAN.repeat(5);
        faulty(five + MAN + ONE, 30, 3);
        faulty(five + "m", 30, 3);
        faulty(five + "m61,0;" + ONE, 30, 3);
        faulty(five + "mm", 30, 3);
        faulty(five + MAN + MAN, 30, 3);
        faulty(LAW + MAN.repeat(4) + "m0,0", 29, 1);
        reads(five + ONE, 1);
    }

    private static void mostLeavers() {
        due.says(0, "LEAVERS 0 .. 5, 6 at most");
        for (int many = 1; many <= 6; many++) {
            reads(LAW + MAN + ONE.repeat(many), many);
            LeftAlone x = Due.of(LAW + MAN + ONE.repeat(many));
            due.is("the last", x.kind(many - 1), 1);
            due.is("one more", x.kind(many), BAD);
        }
        due.says(0, "3 a man, a leaver more than there is room for (its letter).");
        String six = LAW + MAN + ONE.repeat(6);
        for (String sort : new String[] {"p", "f", "s", "i", "w"}) {
            faulty(six + sort, 52, 3);
            faulty(six + sort + "0,1,0;", 52, 3);
            faulty(six + sort + "9,0,9;", 52, 3);
        }
        faulty(six + ONE + ONE, 52, 3);
        faulty(LAW + MAN + ONE.repeat(5) + "p0,1,0", 51, 1);
    }

    private static void oneAtLeast() {
        due.says(0, "town: law man { man } leaver { leaver }.");
        faulty(LAW, 5, 1);
        faulty(LAW + ONE, 5, 1);
        faulty(LAW + MAN, 10, 1);
        reads(LAW + MAN + ONE, 1);
        faulty(LAW + MAN + ONE + MAN, 17, 1);
        faulty(LAW + MAN + ONE + LAW, 17, 1);
        faulty(LAW + MAN + LAW + ONE, 10, 1);
        faulty(LAW + MAN + ONE + ";", 17, 1);
        faulty(LAW + MAN + ONE + " ", 17, 1);
        faulty(LAW + MAN + ONE + "\n", 17, 1);
        faulty(LAW + MAN + ONE + (char) 0, 17, 1);
        faulty(LAW + MAN + ONE + (char) 255, 17, 1);
        faulty(" " + LAW + MAN + ONE, 0, 1);
        faulty("D1,0;" + MAN + ONE, 0, 1);
        faulty(LAW + MAN + "P0,1,0;", 10, 1);
    }

    private static void endOfTape() {
        due.says(0, "the end: how many bytes there are");
        String text = "d1,0;m10,0;m0,0;p0,1,0;w1,2,3;";
        for (int cut = 0; cut < text.length(); cut++) {
            if (cut == text.indexOf('w')) {
                reads(text.substring(0, cut), 1);
            } else {
                faulty(text.substring(0, cut), cut, 1);
            }
        }
        reads(text, 2);
    }

    private static void firstToken() {
        due.says(0, "FAULTS, the first TOKEN that has one (its first byte)");
        faulty("d0,x", 1, 2);
        faulty("dx,0;", 1, 1);
        faulty("d1,10;x", 3, 2);
        faulty(LAW + "m61,99;" + ONE, 6, 2);
        faulty(LAW + "m60,99;" + ONE, 9, 2);
        faulty(LAW + MAN + "p1,0,5;", 11, 2);
        faulty(LAW + MAN + "p0,0,5;", 13, 2);
        faulty(LAW + MAN + "p0,1,5;?", 15, 2);
        faulty(LAW + MAN + "p0,1,4;?", 17, 1);
        faulty(LAW + MAN.repeat(5) + "m;", 30, 3);
        // A NUMBER of two figures has its FAULT at the first of them.
        faulty(LAW + MAN + "p0,10,0;", 13, 2);
        faulty(LAW + MAN + "p0,1,05;", 15, 2);
        faulty(LAW + MAN + "12", 10, 1);
    }

    private static void leastOfOneToken() {
        due.says(0, "of one TOKEN the least");
        // A man behind a leaver cannot stand there, though he is one too many, too.
        faulty(LAW + MAN.repeat(5) + ONE + "m", 37, 1);
        faulty(LAW + MAN.repeat(5) + ONE.repeat(6) + "m", 72, 1);
        faulty(LAW + MAN.repeat(5) + ONE.repeat(6) + "p", 72, 3);
        // A run of three is no TOKEN, though it is more than is told, too.
        faulty("d999,0;" + MAN + ONE, 1, 1);
        // A NUMBER that cannot stand there, and would be too great.
        faulty("d1,0;99", 5, 1);
        // A leaver one too many cannot stand where a sign is due.
        faulty(LAW + MAN + ONE.repeat(5) + "p0,1,0p", 51, 1);
    }

    private static void emptyThen() {
        due.says(7, "The tape, empty then, is read: how many LEAVERS there are.");
        LeftAlone x = new LeftAlone();
        due.is("an empty tape", x.town(), -1000100);
        due.is("read", Due.read(x, LAW + MAN + ONE), 1);
        due.is("empty", x.count(7), 0);
        due.is("an empty tape", x.town(), -1000100);
        due.is("a FAULT", Due.read(x, LAW + MAN), -1000110);
        due.is("empty", x.count(7), 0);
        due.is("what came ahead is no part of it", Due.read(x, ONE), -1000100);
        for (int i = 1; i <= 120; i++) {
            x.feed('z');
        }
        due.is("full", x.feed('z'), FULL);
        due.is("a FAULT", x.town(), -1000100);
        due.is("room again", x.feed('z'), 1);
    }

    private static void allStays() {
        due.says(7, "-1000100 less the place of a FAULT: all stays.");
        String[] texts = {"", "d", "d0", LAW, LAW + "m61", LAW + MAN + MAN + MAN, LAW + MAN + "p1",
            LAW + MAN.repeat(6), LAW + MAN + ONE.repeat(7), LAW + MAN + ONE + "x"};
        for (String text : texts) {
            LeftAlone x = Due.of("d2,3;m10,4;m5,1;p0,5,0;f1,2,1;");
            x.days(2);
            x.bar(1, 1);
            int felt = x.count(4);
            int made = x.leaver(1, 4);
            due.holds("a FAULT of '" + text + "'", Due.read(x, text) <= -1000100);
            due.is("MEN", x.count(1), 2);
            due.is("LEAVERS", x.count(2), 2);
            due.is("DAY", x.count(3), 2);
            due.is("FEELS", x.count(4), felt);
            due.is("BARRED", x.count(5), 2);
            due.is("ACTS", x.count(6), 3);
            due.is("PATIENCE", x.man(0, 1), 4);
            due.is("KIND", x.kind(1), 2);
            due.is("WEIGHT", x.leaver(0, 1), 5);
            due.is("MAKES", x.leaver(1, 4), made);
            due.is("undo", x.undo(), 2);
            due.is("nobody BARRED", x.count(5), 0);
        }
    }

    private static void inPlace() {
        due.says(0, "DAY 0, nobody is BARRED; no ACT can be undone.");
        LeftAlone x = Due.of("d2,3;m10,4;m5,1;m7,7;p0,5,0;f1,2,0;");
        x.days(3);
        x.bar(2, 1);
        x.bar(0, 1);
        due.is("ACTS", x.count(6), 5);
        due.is("another TOWN", Due.read(x, "d9,0;m20,1;f0,3,0;"), 1);
        due.is("MEN", x.count(1), 1);
        due.is("LEAVERS", x.count(2), 1);
        due.is("MAN 1 is no more", x.man(1, 0), BAD);
        due.is("LEAVER 1 is no more", x.leaver(1, 0), BAD);
        due.is("DAY", x.count(3), 0);
        due.is("FEELS", x.count(4), 20);
        due.is("BARRED", x.count(5), 0);
        due.is("ACTS", x.count(6), 0);
        due.is("undo()", x.undo(), STATE);
        due.says(0, "since he was SENT (or the TOWN was read)");
        due.is("times away", x.leaver(0, 5), 0);
        x.days(2);
        due.is("times away", x.leaver(0, 5), 2);
        due.is("the same TOWN anew", Due.read(x, "d9,0;m20,1;f0,3,0;"), 1);
        due.is("times away", x.leaver(0, 5), 0);
        due.is("MAKES", x.leaver(0, 4), 3);
    }

    /** What is foretold of one TOWN is no part of the next. */
    private static void inPlaceBehindForetold() {
        due.says(0, "A TOWN that is read stands in place of the one before (none at first)");
        for (int call = 0; call < 10; call++) {
            LeftAlone x = Due.of("d2,3;m10,4;m5,1;m7,7;f0,5,0;f1,2,1;w2,2,1;");
            x.days(4);
            x.bar(0, 1);
            x.row(0, 0, 1);
            switch (call) {
                case 0: x.ahead(0, 9); break;
                case 1: x.fewest(1, 9, 99, 0); break;
                case 2: x.tells(9, 1); break;
                case 3: x.tells(9, 0); break;
                case 4: x.absent(0, 0, 0, 1); break;
                case 5: x.rain(0, 9, 5, 0); break;
                case 6: x.weights(0, 0, 0, 0, 1); break;
                case 7: x.drawn(9, 9, 0); break;
                case 8: x.awayAhead(0, 9); break;
                default: x.bestHouse(2, 9, 0); break;
            }
            String what = "behind call " + call + ": ";
            due.is(what + "another TOWN", Due.read(x, "d1,0;m0,0;m0,0;f0,3,0;f1,3,0;f0,3,0;"), 3);
            due.is(what + "DAY", x.count(3), 0);
            due.is(what + "BARRED", x.count(5), 0);
            for (int one = 0; one < 3; one++) {
                due.is(what + "times of " + one, x.leaver(one, 5), 0);
                due.is(what + "MAKES of " + one, x.leaver(one, 4), 3);
            }
            due.is(what + "away from 0", x.man(0, 3), 5);
            due.is(what + "away from 1", x.man(1, 3), 2);
            due.is(what + "a DAY", x.days(1), 9);
            for (int one = 0; one < 3; one++) {
                due.is(what + "times of " + one + " then", x.leaver(one, 5), 1);
            }
        }
    }

    private static void latestFault() {
        due.says(8, "The number of the latest FAULT; 0 before one.");
        LeftAlone x = new LeftAlone();
        due.is("before one", x.fault(), 0);
        Due.read(x, LAW + MAN + ONE);
        due.is("before one, a TOWN", x.fault(), 0);
        Due.read(x, "d0");
        due.is("2", x.fault(), 2);
        x.feed(256);
        x.days(0);
        due.is("2 yet", x.fault(), 2);
        Due.read(x, LAW + MAN + ONE);
        due.is("2 yet, a TOWN", x.fault(), 2);
        Due.read(x, LAW + MAN.repeat(6));
        due.is("3", x.fault(), 3);
        x.town();
        due.is("1", x.fault(), 1);
    }
}
