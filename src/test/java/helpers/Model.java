import java.math.BigInteger;
import java.util.ArrayDeque;
import java.util.ArrayList;
import java.util.Arrays;
import java.util.Comparator;
import java.util.List;
import java.util.regex.Matcher;
import java.util.regex.Pattern;

/**
 * The document told a second time, in another way, with all of Java: nothing is counted as DAYS
 * pass, times away are found from the DAY on which a LEAVER was SENT; ACTS keep clones; texts are
 * read by patterns. RandomRunsTest holds LeftAlone against it.
 */
final class Model {
    static final int NONE = -1000000, BAD = -1000001, STATE = -1000002, FULL = -1000003;

    static final class Man {
        int feels;
        int patience;
        boolean barred;
    }

    static final class Leaver {
        int kind;
        int house;
        int weight;
        int pace;
        int sentOn;
        boolean home;
    }

    static final class Town {
        int used;
        int rain;
        int day;
        final List<Man> men = new ArrayList<>();
        final List<Leaver> leavers = new ArrayList<>();

        Town another() {
            Town t = new Town();
            t.used = used;
            t.rain = rain;
            t.day = day;
            for (Man m : men) {
                Man n = new Man();
                n.feels = m.feels;
                n.patience = m.patience;
                n.barred = m.barred;
                t.men.add(n);
            }
            for (Leaver l : leavers) {
                Leaver k = new Leaver();
                k.kind = l.kind;
                k.house = l.house;
                k.weight = l.weight;
                k.pace = l.pace;
                k.sentOn = l.sentOn;
                k.home = l.home;
                t.leavers.add(k);
            }
            return t;
        }

        int houseOn(Leaver l, int d) {
            return (l.house + l.pace * d) % men.size();
        }

        int times(Leaver l) {
            int times = 0;
            for (int d = l.sentOn; d < day; d++) {
                if (houseOn(l, d) == houseOn(l, day)) {
                    times++;
                }
            }
            return times;
        }

        int makes(Leaver l) {
            int idle = day % 3 == 0 ? l.weight : 0;
            boolean raining = (7 * day) % 10 < rain;
            return switch (l.kind) {
                case 1 -> l.weight;
                case 2 -> l.weight + Math.min(times(l), 9);
                case 3 -> l.weight / 2;
                case 4 -> idle;
                default -> raining ? l.weight * 2 : idle;
            };
        }

        List<Leaver> awayFrom(int man) {
            List<Leaver> those = new ArrayList<>();
            for (Leaver l : leavers) {
                if (!l.home && houseOn(l, day) == man) {
                    those.add(l);
                }
            }
            return those;
        }

        int awayBits(int man) {
            int bits = 0;
            for (Leaver l : awayFrom(man)) {
                bits += 1 << leavers.indexOf(l);
            }
            return bits;
        }

        int madeAt(int man) {
            return awayFrom(man).stream().mapToInt(this::makes).sum();
        }

        boolean isUsed(int man) {
            return !awayFrom(man).isEmpty() && madeAt(man) <= men.get(man).patience;
        }

        void pass() {
            int[] felt = new int[men.size()];
            for (int m = 0; m < felt.length; m++) {
                int by = awayFrom(m).isEmpty() ? -1 : isUsed(m) ? -used : madeAt(m);
                felt[m] = Math.min(99, Math.max(0, men.get(m).feels + by));
            }
            for (int m = 0; m < felt.length; m++) {
                men.get(m).feels = felt[m];
            }
            day++;
        }

        Town behind(int n) {
            Town t = another();
            for (int i = 0; i < n; i++) {
                t.pass();
            }
            return t;
        }

        Town without(int homeBits) {
            Town t = another();
            for (int l = 0; l < leavers.size(); l++) {
                t.leavers.get(l).home = (homeBits >> l & 1) == 1;
            }
            return t;
        }

        Town sent(int leaver, int house) {
            Town t = another();
            t.leavers.get(leaver).house = house;
            t.leavers.get(leaver).sentOn = day;
            return t;
        }

        int all() {
            return men.stream().mapToInt(m -> m.feels).sum();
        }

        int barredBits() {
            int bits = 0;
            for (int m = 0; m < men.size(); m++) {
                bits += men.get(m).barred ? 1 << m : 0;
            }
            return bits;
        }

        boolean tells(int man, int[] row, int i, int n) {
            for (int d = 1; d <= n; d++) {
                if (behind(d).men.get(man).feels != row[i + d - 1]) {
                    return false;
                }
            }
            return true;
        }
    }

    private final int[][] rows = new int[8][];
    private final int[] lanes = new int[8];
    private final StringBuilder tape = new StringBuilder();
    private final ArrayDeque<Town> acts = new ArrayDeque<>();
    private final Town[] images = new Town[2];
    private final List<Integer> trace = new ArrayList<>();
    private Town town;
    private int fault;
    private int status;

    // ---- rows

    private int found(int k) {
        status = k;
        return -1000010 - k;
    }

    private int fine(int answer) {
        status = 0;
        return answer;
    }

    private static boolean in(long n, long a, long b) {
        return a <= n && n <= b;
    }

    int row(int row, int lane, int n) {
        if (!in(row, 0, 7) || !in(lane, 0, 2) || n > 40) {
            return BAD;
        }
        if (n < 0) {
            return found(4);
        }
        rows[row] = new int[n];
        lanes[row] = lane;
        return fine(n);
    }

    int set(int row, int i, int v) {
        if (!in(row, 0, 7)) {
            return BAD;
        }
        if (rows[row] == null) {
            return found(1);
        }
        if (!in(i, 0, rows[row].length - 1)) {
            return found(2);
        }
        int[] above = {24, 16, 0};
        rows[row][i] = v << above[lanes[row]] >> above[lanes[row]];
        return fine(rows[row][i]);
    }

    int copy(int a, int i, int b, int j, int n) {
        if (!in(a, 0, 7) || !in(b, 0, 7)) {
            return BAD;
        }
        if (rows[a] == null || rows[b] == null) {
            return found(1);
        }
        if (lanes[a] != lanes[b]) {
            return found(5);
        }
        if (i < 0 || j < 0 || n < 0 || (long) i + n > rows[a].length || (long) j + n > rows[b].length) {
            return found(2);
        }
        int[] were = rows[a].clone();
        for (int k = 0; k < n; k++) {
            rows[b][j + k] = were[i + k];
        }
        return fine(n);
    }

    int drop(int row) {
        if (!in(row, 0, 7)) {
            return BAD;
        }
        if (rows[row] == null) {
            return found(1);
        }
        int n = rows[row].length;
        rows[row] = null;
        return fine(n);
    }

    // ---- what is told

    int feed(int letter) {
        if (!in(letter, 0, 255)) {
            return BAD;
        }
        if (tape.length() == 120) {
            return FULL;
        }
        tape.append((char) letter);
        return tape.length();
    }

    private static final Pattern TOKEN = Pattern.compile("[0-9]+|.", Pattern.DOTALL);

    private static int kindOf(String token) {
        return token.length() == 1 ? "pfsiw".indexOf(token) + 1 : 0;
    }

    private int faulty(int place, int number) {
        fault = number;
        return -1000100 - place;
    }

    /** Reads by a table: the state says which TOKEN is due; "" is the end. */
    int town() {
        List<String> tokens = new ArrayList<>();
        List<Integer> places = new ArrayList<>();
        Matcher m = TOKEN.matcher(tape);
        while (m.find()) {
            tokens.add(m.group());
            places.add(m.start());
        }
        tokens.add("");
        places.add(tape.length());
        tape.setLength(0);
        Town t = new Town();
        String[] due = "d,#,c,#,e".split(",");
        String part = "d";
        int step = 0;
        int nth = 0;
        for (int k = 0; k < tokens.size(); k++) {
            String token = tokens.get(k);
            int place = places.get(k);
            if (step == due.length) {
                boolean ends = token.isEmpty() && part.equals("l");
                boolean man = token.equals("m") && !part.equals("l");
                boolean leaver = !token.isEmpty() && kindOf(token) > 0 && !part.equals("d");
                if (ends) {
                    town = t;
                    acts.clear();
                    return t.leavers.size();
                }
                if (!man && !leaver) {
                    return faulty(place, 1);
                }
                if (man && t.men.size() == 5 || leaver && t.leavers.size() == 6) {
                    return faulty(place, 3);
                }
                part = man ? "m" : "l";
                due = (man ? "m,#,c,#,e" : "l,#,c,#,c,#,e").split(",");
                step = 0;
                nth = 0;
            }
            String want = due[step];
            if (want.equals("#")) {
                if (!token.matches("[0-9]{1,2}")) {
                    return faulty(place, 1);
                }
                int value = Integer.parseInt(token);
                if (!fits(t, part, nth, value)) {
                    return faulty(place, 2);
                }
                put(t, part, nth, value);
                nth++;
            } else if (want.equals("l")) {
                Leaver l = new Leaver();
                l.kind = kindOf(token);
                t.leavers.add(l);
            } else if (want.equals("m")) {
                t.men.add(new Man());
            } else if (!token.equals(want.equals("c") ? "," : want.equals("e") ? ";" : want)) {
                return faulty(place, 1);
            }
            step++;
        }
        throw new IllegalStateException("no end");
    }

    private static boolean fits(Town t, String part, int nth, int value) {
        return switch (part + nth) {
            case "d0", "l1" -> in(value, 1, 9);
            case "d1", "m1" -> in(value, 0, 9);
            case "m0" -> in(value, 0, 60);
            case "l0" -> in(value, 0, t.men.size() - 1);
            default -> in(value, 0, 4);
        };
    }

    private static void put(Town t, String part, int nth, int value) {
        switch (part + nth) {
            case "d0" -> t.used = value;
            case "d1" -> t.rain = value;
            case "m0" -> t.men.get(t.men.size() - 1).feels = value;
            case "m1" -> t.men.get(t.men.size() - 1).patience = value;
            case "l0" -> t.leavers.get(t.leavers.size() - 1).house = value;
            case "l1" -> t.leavers.get(t.leavers.size() - 1).weight = value;
            default -> t.leavers.get(t.leavers.size() - 1).pace = value;
        }
    }

    int fault() {
        return fault;
    }

    int undo() {
        if (acts.isEmpty()) {
            return STATE;
        }
        town = acts.removeLast();
        return acts.size();
    }

    // ---- what is done

    private boolean noMan(int man) {
        return town == null || !in(man, 0, town.men.size() - 1);
    }

    private boolean noLeaver(int one) {
        return town == null || !in(one, 0, town.leavers.size() - 1);
    }

    private void act() {
        acts.addLast(town.another());
        if (acts.size() > 24) {
            acts.removeFirst();
        }
    }

    int days(int n) {
        if (town == null) {
            return STATE;
        }
        if (!in(n, 1, 24)) {
            return BAD;
        }
        if (town.day + n > 999) {
            return FULL;
        }
        for (int i = 0; i < n; i++) {
            act();
            town.pass();
        }
        return town.all();
    }

    int send(int one, int house) {
        if (noLeaver(one) || noMan(house)) {
            return BAD;
        }
        act();
        int was = town.leavers.get(one).house;
        town = town.sent(one, house);
        return was;
    }

    int weight(int one, int n) {
        if (noLeaver(one) || !in(n, 1, 9)) {
            return BAD;
        }
        act();
        int was = town.leavers.get(one).weight;
        town.leavers.get(one).weight = n;
        return was;
    }

    int bar(int man, int on) {
        if (noMan(man) || !in(on, 0, 1)) {
            return BAD;
        }
        if (town.men.get(man).barred == (on == 1)) {
            return STATE;
        }
        act();
        town.men.get(man).barred = on == 1;
        return town.barredBits();
    }

    int patience(int man, int n) {
        if (noMan(man) || !in(n, 0, 9)) {
            return BAD;
        }
        act();
        int was = town.men.get(man).patience;
        town.men.get(man).patience = n;
        return was;
    }

    int leaver(int one, int what) {
        if (noLeaver(one)) {
            return BAD;
        }
        Leaver l = town.leavers.get(one);
        return switch (what) {
            case 0 -> l.house;
            case 1 -> l.weight;
            case 2 -> l.pace;
            case 3 -> town.houseOn(l, town.day);
            case 4 -> town.makes(l);
            case 5 -> town.times(l);
            default -> BAD;
        };
    }

    int man(int man, int what) {
        if (noMan(man)) {
            return BAD;
        }
        Man m = town.men.get(man);
        return switch (what) {
            case 0 -> m.feels;
            case 1 -> m.patience;
            case 2 -> m.barred ? 1 : 0;
            case 3 -> town.awayBits(man);
            case 4 -> town.madeAt(man);
            default -> BAD;
        };
    }

    // ---- foretold

    int ahead(int man, int n) {
        return noMan(man) || !in(n, 0, 60) ? BAD : town.behind(n).men.get(man).feels;
    }

    int awayAhead(int man, int n) {
        return noMan(man) || !in(n, 0, 60) ? BAD : town.behind(n).awayBits(man);
    }

    int first(int man) {
        if (noMan(man)) {
            return BAD;
        }
        Town t = town.another();
        for (int n = 1; n <= 60; n++) {
            boolean nobody = t.awayFrom(man).isEmpty();
            t.pass();
            if (nobody) {
                return n;
            }
        }
        return NONE;
    }

    int reach(int man, int v) {
        if (noMan(man) || !in(v, 1, 99)) {
            return BAD;
        }
        Town t = town.another();
        for (int n = 0; n <= 60; n++) {
            if (t.men.get(man).feels >= v) {
                return n;
            }
            t.pass();
        }
        return NONE;
    }

    int usual(int man, int n) {
        if (noMan(man) || !in(n, 1, 60)) {
            return BAD;
        }
        Town t = town.another();
        int times = 0;
        for (int d = 0; d < n; d++) {
            times += t.isUsed(man) ? 1 : 0;
            t.pass();
        }
        return times;
    }

    int fewest(int men, int n, int v, int what) {
        if (town == null) {
            return STATE;
        }
        if (!in(men, 0, (1 << town.men.size()) - 1) || !in(n, 1, 30) || !in(v, 1, 99) || !in(what, 0, 1)) {
            return BAD;
        }
        int everyone = (1 << town.leavers.size()) - 1;
        List<Integer> sets = new ArrayList<>();
        for (int set = everyone; set >= 0; set--) {
            Town t = town.without(everyone - set).behind(n);
            boolean all = true;
            for (int m = 0; m < t.men.size(); m++) {
                all &= (men >> m & 1) == 0 || t.men.get(m).feels >= v;
            }
            if (all) {
                sets.add(set);
            }
        }
        return sets.stream()
                .min(Comparator.<Integer>comparingInt(s -> Integer.bitCount(s)).thenComparingInt(s -> s))
                .map(s -> what == 0 ? Integer.bitCount(s) : s).orElse(NONE);
    }

    int bestHouse(int one, int n, int what) {
        if (noLeaver(one) || !in(n, 1, 60) || !in(what, 0, 1)) {
            return BAD;
        }
        int[] felt = new int[town.men.size()];
        for (int h = 0; h < felt.length; h++) {
            felt[h] = town.sent(one, h).behind(n).all();
        }
        int most = Arrays.stream(felt).max().orElseThrow();
        int h = 0;
        while (felt[h] != most) {
            h++;
        }
        return what == 0 ? h : most;
    }

    int tells(int n, int what) {
        if (town == null) {
            return STATE;
        }
        if (!in(n, 1, 60) || !in(what, 0, 1)) {
            return BAD;
        }
        int[] felt = new int[town.leavers.size()];
        for (int l = 0; l < felt.length; l++) {
            felt[l] = town.without(1 << l).behind(n).all();
        }
        int least = Arrays.stream(felt).min().orElseThrow();
        int l = 0;
        while (felt[l] != least) {
            l++;
        }
        return what == 0 ? l : town.behind(n).all() - least + 1000;
    }

    private Integer refusedRow(int man, int row, int i, int n) {
        if (noMan(man) || !in(row, 0, 7) || !in(n, 1, 12)) {
            return BAD;
        }
        if (rows[row] == null) {
            return found(1);
        }
        if (i < 0 || (long) i + n > rows[row].length) {
            return found(2);
        }
        fine(0);
        return null;
    }

    int who(int one, int man, int row, int i, int n) {
        if (noLeaver(one)) {
            return BAD;
        }
        Integer refused = refusedRow(man, row, i, n);
        if (refused != null) {
            return refused;
        }
        int bits = 0;
        for (int kind = 1; kind <= 5; kind++) {
            Town t = town.another();
            t.leavers.get(one).kind = kind;
            bits |= t.tells(man, rows[row], i, n) ? 1 << kind : 0;
        }
        return bits;
    }

    int houses(int one, int man, int row, int i, int n) {
        if (noLeaver(one)) {
            return BAD;
        }
        Integer refused = refusedRow(man, row, i, n);
        if (refused != null) {
            return refused;
        }
        int bits = 0;
        for (int h = 0; h < town.men.size(); h++) {
            bits |= town.sent(one, h).tells(man, rows[row], i, n) ? 1 << h : 0;
        }
        return bits;
    }

    int weights(int one, int man, int row, int i, int n) {
        if (noLeaver(one)) {
            return BAD;
        }
        Integer refused = refusedRow(man, row, i, n);
        if (refused != null) {
            return refused;
        }
        int bits = 0;
        for (int w = 1; w <= 9; w++) {
            Town t = town.another();
            t.leavers.get(one).weight = w;
            bits |= t.tells(man, rows[row], i, n) ? 1 << w : 0;
        }
        return bits;
    }

    int absent(int man, int row, int i, int n) {
        Integer refused = refusedRow(man, row, i, n);
        if (refused != null) {
            return refused;
        }
        int bits = town.tells(man, rows[row], i, n) ? 64 : 0;
        for (int l = 0; l < town.leavers.size(); l++) {
            bits |= town.without(1 << l).tells(man, rows[row], i, n) ? 1 << l : 0;
        }
        return bits;
    }

    int greets(int what) {
        if (town == null) {
            return STATE;
        }
        if (!in(what, 0, 1)) {
            return BAD;
        }
        List<Integer> pairs = new ArrayList<>();
        for (int m = 1; m < town.men.size(); m++) {
            if (!town.men.get(m - 1).barred && !town.men.get(m).barred
                    && town.awayBits(m - 1) + town.awayBits(m) == 0) {
                pairs.add(10 * (m - 1) + m);
            }
        }
        return what == 0 ? pairs.size() : pairs.isEmpty() ? NONE : pairs.get(0);
    }

    int talk(int man, int other) {
        if (noMan(man) || noMan(other) || man == other) {
            return BAD;
        }
        if (man > other) {
            return talk(other, man);
        }
        return town.men.subList(man, other + 1).stream().anyMatch(m -> m.barred) ? 0 : 1;
    }

    int alone() {
        if (town == null) {
            return STATE;
        }
        int most = town.men.stream().mapToInt(m -> m.feels).max().orElseThrow();
        int bits = 0;
        for (int m = 0; m < town.men.size(); m++) {
            bits |= town.men.get(m).feels == most ? 1 << m : 0;
        }
        return bits;
    }

    /** Tenths of tenths .. in which MAN FEELS v or more, deciding on one LEAVER after another. */
    private long casesFrom(Town t, int one, int man, int v, int p) {
        if (one == t.leavers.size()) {
            return t.behind(1).men.get(man).feels >= v ? 1 : 0;
        }
        if (t.leavers.get(one).kind != 5) {
            return casesFrom(t, one + 1, man, v, p);
        }
        Town gone = t.another();
        gone.leavers.get(one).home = true;
        return p * casesFrom(gone, one + 1, man, v, p) + (10 - p) * casesFrom(t, one + 1, man, v, p);
    }

    long rain(int man, int v, int p, int what) {
        if (noMan(man) || !in(v, 0, 99) || !in(p, 0, 10) || !in(what, 0, 1)) {
            return BAD;
        }
        int wet = (int) town.leavers.stream().filter(l -> l.kind == 5).count();
        BigInteger above = BigInteger.valueOf(casesFrom(town, 0, man, v, p));
        BigInteger below = BigInteger.TEN.pow(wet);
        BigInteger common = above.gcd(below);
        return (what == 0 ? above : below).divide(common).longValueExact();
    }

    int drawn(int n, int seed, int what) {
        if (town == null) {
            return STATE;
        }
        if (!in(n, 0, 60) || !in(seed, 1, 999999) || !in(what, 0, 1)) {
            return BAD;
        }
        Town t = town;
        BigInteger x = BigInteger.valueOf(seed);
        int usedDays = 0;
        for (int d = 0; d < n; d++) {
            x = x.multiply(BigInteger.valueOf(16807)).mod(BigInteger.valueOf(2147483647));
            int rest = x.intValueExact();
            if (rest % 4 == 0) {
                t = t.sent(rest % t.leavers.size(), rest % t.men.size());
            }
            boolean somebody = false;
            for (int m = 0; m < t.men.size(); m++) {
                somebody |= t.isUsed(m);
            }
            usedDays += somebody ? 1 : 0;
            t = t.behind(1);
        }
        return what == 0 ? t.all() : usedDays;
    }

    int image(int k) {
        if (!in(k, 0, 1)) {
            return BAD;
        }
        if (town == null) {
            return STATE;
        }
        images[k] = town.another();
        return 1;
    }

    int restore(int k) {
        if (!in(k, 0, 1)) {
            return BAD;
        }
        if (images[k] == null) {
            return STATE;
        }
        town = images[k].another();
        acts.clear();
        return 1;
    }

    // ---- asked, by classes of the KINDS

    private static class Any {
        final int number;
        final int weight;
        final int makes;
        final List<Integer> trace;

        Any(int number, int weight, int makes, List<Integer> trace) {
            this.number = number;
            this.weight = weight;
            this.makes = makes;
            this.trace = trace;
        }

        int size() {
            trace.add(10);
            return weight;
        }

        int mark() {
            trace.add(20);
            return number;
        }
    }

    private static class Pointed extends Any {
        Pointed(int number, int weight, int makes, List<Integer> trace) {
            super(number, weight, makes, trace);
        }

        @Override int size() {
            trace.add(11);
            int ten = super.size();
            return ten + mark();
        }

        @Override int mark() {
            trace.add(21);
            return super.mark() + makes;
        }
    }

    private static final class Faithful extends Pointed {
        Faithful(int number, int weight, int makes, List<Integer> trace) {
            super(number, weight, makes, trace);
        }

        @Override int size() {
            trace.add(12);
            return -super.size();
        }

        @Override int mark() {
            trace.add(24);
            return 2 * super.mark();
        }
    }

    private static final class Substitute extends Pointed {
        Substitute(int number, int weight, int makes, List<Integer> trace) {
            super(number, weight, makes, trace);
        }

        @Override int mark() {
            trace.add(22);
            return super.mark() - 1000;
        }
    }

    private static class Idle extends Any {
        Idle(int number, int weight, int makes, List<Integer> trace) {
            super(number, weight, makes, trace);
        }

        @Override int size() {
            trace.add(13);
            return super.size() - 100;
        }

        @Override int mark() {
            trace.add(23);
            int twenty = super.mark();
            return twenty - size();
        }
    }

    private static final class Wet extends Idle {
        Wet(int number, int weight, int makes, List<Integer> trace) {
            super(number, weight, makes, trace);
        }

        @Override int size() {
            trace.add(14);
            return 2 * super.size();
        }
    }

    private Any any(int one) {
        Leaver l = town.leavers.get(one);
        int makes = town.makes(l);
        return switch (l.kind) {
            case 1 -> new Pointed(one, l.weight, makes, trace);
            case 2 -> new Faithful(one, l.weight, makes, trace);
            case 3 -> new Substitute(one, l.weight, makes, trace);
            case 4 -> new Idle(one, l.weight, makes, trace);
            default -> new Wet(one, l.weight, makes, trace);
        };
    }

    int kind(int one) {
        return noLeaver(one) ? BAD : town.leavers.get(one).kind;
    }

    int as(int one, int kind) {
        if (noLeaver(one) || !in(kind, 0, 5)) {
            return BAD;
        }
        Class<?>[] kinds = {Any.class, Pointed.class, Faithful.class, Substitute.class, Idle.class, Wet.class};
        return kinds[kind].isInstance(any(one)) ? fine(one) : found(3);
    }

    int ask(int one, int what) {
        if (noLeaver(one) || !in(what, 0, 1)) {
            return BAD;
        }
        trace.clear();
        return what == 0 ? any(one).size() : any(one).mark();
    }

    int trace(int i) {
        return in(i, 0, Math.min(16, trace.size()) - 1) ? trace.get(i) : NONE;
    }

    int count(int what) {
        return switch (what) {
            case 0 -> (int) Arrays.stream(rows).filter(r -> r != null).count();
            case 1 -> town == null ? 0 : town.men.size();
            case 2 -> town == null ? 0 : town.leavers.size();
            case 3 -> town == null ? 0 : town.day;
            case 4 -> town == null ? 0 : town.all();
            case 5 -> town == null ? 0 : town.barredBits();
            case 6 -> acts.size();
            case 7 -> tape.length();
            default -> BAD;
        };
    }

    int status() {
        return status;
    }
}
