import java.util.Random;

/**
 * Promises 1 to 41: long runs of calls, drawn from fixed seeds, on LeftAlone and on the Model at
 * once; numbers as told mostly, beside them and far off now and then. Each answer must be the same.
 */
public final class RandomRunsTest {
    /** An object is used for 512 calls at most; the dearest step makes fewer than 150. */
    private static final int RUNS = 2000, CALLS = 512 - 150, LONGEST_TEXT = 130;
    private static final Due due = new Due("RandomRunsTest");
    private static Random random;
    private static LeftAlone x;
    private static Model y;

    public static void main(String[] args) {
        for (int run = 0; run < RUNS && due.wrong() < 20; run++) {
            random = new Random(run);
            x = new LeftAlone();
            y = new Model();
            int before = due.asked();
            // Every third run knows no TOWN for a while; every tenth comes to the last DAYS.
            if (run % 3 != 0) {
                text(run, random.nextInt(3) == 0);
            }
            while (due.asked() - before < CALLS) {
                if (random.nextInt(60) == 0) {
                    text(run, random.nextInt(3) == 0);
                } else if (run % 10 == 0 && random.nextInt(3) == 0) {
                    int n = near(20, 24);
                    due.is(run + ": days", x.days(n), y.days(n));
                } else {
                    step(run);
                }
            }
        }
        due.end();
    }

    private static int upTo(int n) {
        return random.nextInt(n + 1);
    }

    /** A number from a to b mostly; else one beside them, or far off. */
    private static int near(int a, int b) {
        int[] off = {a - 1, b + 1, Integer.MIN_VALUE, Integer.MAX_VALUE, -b - 1, b + 100};
        return random.nextInt(25) == 0 ? off[random.nextInt(off.length)] : a + random.nextInt(b - a + 1);
    }

    private static int aMan() {
        return near(0, Math.max(0, y.count(1) - 1));
    }

    private static int aLeaver() {
        return near(0, Math.max(0, y.count(2) - 1));
    }

    private static String town() {
        StringBuilder s = new StringBuilder();
        s.append('d').append(1 + upTo(8)).append(',').append(upTo(9)).append(';');
        int men = 1 + upTo(4);
        for (int i = 0; i < men; i++) {
            s.append('m').append(upTo(60)).append(',').append(upTo(9)).append(';');
        }
        int leavers = 1 + upTo(5);
        for (int i = 0; i < leavers; i++) {
            s.append("pfsiwfw".charAt(random.nextInt(7))).append(random.nextInt(men)).append(',')
                    .append(1 + upTo(8)).append(',').append(upTo(4)).append(';');
        }
        return s.toString();
    }

    private static void text(int run, boolean faulty) {
        StringBuilder s = new StringBuilder(town());
        if (faulty) {
            for (int edits = upTo(2); edits >= 0 && s.length() > 0; edits--) {
                int at = random.nextInt(s.length());
                switch (random.nextInt(4)) {
                    case 0 -> s.deleteCharAt(at);
                    case 1 -> s.insert(at, "dm0123456789,;pfsiwx D".charAt(random.nextInt(22)));
                    case 2 -> s.setLength(at);
                    default -> s.append(s.substring(at));
                }
            }
        }
        for (int i = 0; i < Math.min(s.length(), LONGEST_TEXT); i++) {
            due.is(run + ": feed", x.feed(s.charAt(i)), y.feed(s.charAt(i)));
        }
        due.is(run + ": town of " + s, x.town(), y.town());
        due.is(run + ": fault of " + s, x.fault(), y.fault());
    }

    /** A ROW that tells what will be felt by a TOWN that is changed a little, so that answers differ. */
    private static void tellRow(int run) {
        int row = upTo(7);
        int n = 1 + upTo(11);
        int man = Math.max(0, y.count(1) - 1);
        man = man == 0 ? 0 : upTo(man);
        due.is(run + ": row", x.row(row, 0, n + 2), y.row(row, 0, n + 2));
        int change = random.nextInt(4);
        int one = Math.max(0, Math.min(y.count(2) - 1, upTo(5)));
        int to = upTo(9);
        if (change == 1) {
            y.weight(one, to);
        } else if (change == 2) {
            y.send(one, Math.min(to, Math.max(0, y.count(1) - 1)));
        }
        int[] felt = new int[n];
        for (int d = 0; d < n; d++) {
            felt[d] = y.ahead(man, d + 1);
        }
        if (change == 1 && to >= 1 && y.count(2) > 0) {
            y.undo();
        } else if (change == 2 && y.count(2) > 0) {
            y.undo();
        }
        for (int d = 0; d < n; d++) {
            due.is(run + ": set", x.set(row, d + 1, felt[d]), y.set(row, d + 1, felt[d]));
        }
        int short1 = 1 + random.nextInt(n);
        due.is(run + ": absent", x.absent(man, row, 1, short1), y.absent(man, row, 1, short1));
        for (int l = 0; l < y.count(2); l++) {
            due.is(run + ": who", x.who(l, man, row, 1, short1), y.who(l, man, row, 1, short1));
            due.is(run + ": houses", x.houses(l, man, row, 1, short1), y.houses(l, man, row, 1, short1));
            due.is(run + ": weights", x.weights(l, man, row, 1, short1), y.weights(l, man, row, 1, short1));
        }
    }

    private static void step(int run) {
        String at = "run " + run + ": ";
        int a = near(0, 7);
        int b = near(0, 7);
        int i = near(0, 12);
        int j = near(0, 12);
        int n = near(0, 12);
        int m = aMan();
        int o = aMan();
        int l = aLeaver();
        int what = near(0, 1);
        switch (random.nextInt(46)) {
            case 0 -> { int lane = near(0, 2); int many = near(0, 40); due.is(at + "row", x.row(a, lane, many), y.row(a, lane, many)); }
            case 1 -> { int v = random.nextBoolean() ? random.nextInt() : upTo(99); due.is(at + "set", x.set(a, i, v), y.set(a, i, v)); }
            case 2 -> due.is(at + "copy", x.copy(a, i, b, j, n), y.copy(a, i, b, j, n));
            case 3 -> due.is(at + "copy within", x.copy(a, i, a, j, n), y.copy(a, i, a, j, n));
            case 4 -> { if (upTo(3) == 0) { due.is(at + "drop", x.drop(a), y.drop(a)); } }
            case 5 -> { if (upTo(3) == 0) { int letter = near(0, 255); due.is(at + "feed", x.feed(letter), y.feed(letter)); } }
            case 6 -> { if (upTo(9) == 0) { due.is(at + "town", x.town(), y.town()); } }
            case 7 -> due.is(at + "fault", x.fault(), y.fault());
            case 8 -> due.is(at + "undo", x.undo(), y.undo());
            case 9 -> { int d = near(1, 24); due.is(at + "days", x.days(d), y.days(d)); }
            case 10, 11 -> { int d = near(1, 3); due.is(at + "days", x.days(d), y.days(d)); }
            case 12 -> due.is(at + "send", x.send(l, m), y.send(l, m));
            case 13 -> { int w = near(1, 9); due.is(at + "weight", x.weight(l, w), y.weight(l, w)); }
            case 14 -> due.is(at + "bar", x.bar(m, what), y.bar(m, what));
            case 15 -> { int p = near(0, 9); due.is(at + "patience", x.patience(m, p), y.patience(m, p)); }
            case 16 -> { int w = near(0, 5); due.is(at + "leaver", x.leaver(l, w), y.leaver(l, w)); }
            case 17 -> { int w = near(0, 4); due.is(at + "man", x.man(m, w), y.man(m, w)); }
            case 18 -> { int d = near(0, 60); due.is(at + "ahead", x.ahead(m, d), y.ahead(m, d)); }
            case 19 -> { int d = near(0, 60); due.is(at + "awayAhead", x.awayAhead(m, d), y.awayAhead(m, d)); }
            case 20 -> due.is(at + "first", x.first(m), y.first(m));
            case 21 -> { int v = near(1, 99); due.is(at + "reach", x.reach(m, v), y.reach(m, v)); }
            case 22 -> { int d = near(1, 60); due.is(at + "usual", x.usual(m, d), y.usual(m, d)); }
            case 23 -> { int men = near(0, 31); int d = near(1, 30); int v = near(1, 99); due.is(at + "fewest", x.fewest(men, d, v, what), y.fewest(men, d, v, what)); }
            case 24 -> { int men = 1 << upTo(4); int d = near(1, 9); int v = near(1, 40); due.is(at + "fewest", x.fewest(men, d, v, what), y.fewest(men, d, v, what)); }
            case 25 -> { int d = near(1, 60); due.is(at + "bestHouse", x.bestHouse(l, d, what), y.bestHouse(l, d, what)); }
            case 26 -> { int d = near(1, 60); due.is(at + "tells", x.tells(d, what), y.tells(d, what)); }
            case 27 -> due.is(at + "who", x.who(l, m, a, i, n), y.who(l, m, a, i, n));
            case 28 -> due.is(at + "houses", x.houses(l, m, a, i, n), y.houses(l, m, a, i, n));
            case 29 -> due.is(at + "weights", x.weights(l, m, a, i, n), y.weights(l, m, a, i, n));
            case 30 -> due.is(at + "absent", x.absent(m, a, i, n), y.absent(m, a, i, n));
            case 31 -> { if (upTo(3) == 0 && y.count(2) > 0 && y.count(6) < 23) { tellRow(run); } }
            case 32 -> due.is(at + "greets", x.greets(what), y.greets(what));
            case 33 -> due.is(at + "talk", x.talk(m, o), y.talk(m, o));
            case 34 -> due.is(at + "alone", x.alone(), y.alone());
            case 35, 36 -> { int v = near(0, 99); int p = near(0, 10); due.is(at + "rain", x.rain(m, v, p, what), y.rain(m, v, p, what)); }
            case 37 -> { int v = y.count(1) > 0 ? y.man(0, 0) + upTo(6) : 1; int p = near(1, 9); due.is(at + "rain", x.rain(0, v, p, what), y.rain(0, v, p, what)); }
            case 38 -> { int d = near(0, 60); int seed = near(1, 999999); due.is(at + "drawn", x.drawn(d, seed, what), y.drawn(d, seed, what)); }
            case 39 -> { int k = near(0, 1); due.is(at + "image", x.image(k), y.image(k)); }
            case 40 -> { if (upTo(2) == 0) { int k = near(0, 1); due.is(at + "restore", x.restore(k), y.restore(k)); } }
            case 41 -> due.is(at + "kind", x.kind(l), y.kind(l));
            case 42 -> { int k = near(0, 5); due.is(at + "as", x.as(l, k), y.as(l, k)); }
            case 43 -> due.is(at + "ask", x.ask(l, what), y.ask(l, what));
            case 44 -> { int t = near(0, 7); due.is(at + "trace", x.trace(t), y.trace(t)); }
            default -> { int w = near(0, 7); due.is(at + "count", x.count(w), y.count(w)); }
        }
        due.is(at + "status", x.status(), y.status());
        due.is(at + "count(4)", x.count(4), y.count(4));
        due.is(at + "count(6)", x.count(6), y.count(6));
    }
}
