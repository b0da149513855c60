/**
 * To be left severely alone: a row of MEN in their houses, LEAVERS who stay away from them, and
 * what is felt by it. README.md says how it is used; the document says what each call promises.
 */
public final class LeftAlone {
    public static final int NONE = -1000000, BAD = -1000001, STATE = -1000002, FULL = -1000003;

    private static final int FINDINGS = -1000010, FAULTS = -1000100;
    private static final int NULL = 1, PLACE = 2, KIND = 3, SIZE = 4, STORE = 5;
    private static final int MOST_ROWS = 8, MOST_ITEMS = 40, LANES = 3;
    private static final int MOST_BYTES = 120, MOST_MEN = 5, MOST_LEAVERS = 6;
    private static final int MOST_ACTS = 24, MOST_TRACE = 16, IMAGES = 2;
    private static final int MOST_FELT = 99, LAST_DAY = 999, FAR = 60, TOLD_DAYS = 12;
    private static final int LEAVER = 0, POINTED = 1, FAITHFUL = 2, SUBSTITUTE = 3, IDLE = 4, WET = 5;
    private static final int AS_IT_IS = 64;
    private static final int BY_KIND = 0, BY_HOUSE = 1, BY_WEIGHT = 2;
    private static final int DEEPEST_BODY = 12;

    /** By KIND: the KIND that it is, too; -1 above LEAVER. */
    private static final int[] ABOVE = {-1, LEAVER, POINTED, POINTED, LEAVER, IDLE};
    /** By KIND: the BODY told for it; 0 where none is told. */
    private static final int[] SIZE_BODIES = {10, 11, 12, 0, 13, 14};
    private static final int[] MARK_BODIES = {20, 21, 24, 22, 23, 0};

    private final Row[] rows;
    private final Reader reader;
    private final Acts acts;
    private final Town town;
    /** What is read, and what is foretold, is worked out here, so that the TOWN stays as it is. */
    private final Town trial;
    private final Town[] images;
    private final int[] bodies;
    private int begun;
    private int latestFault;
    private int latestFinding;

    public LeftAlone() {
        rows = new Row[MOST_ROWS];
        for (int i = 0; i < MOST_ROWS; i++) {
            rows[i] = new Row();
        }
        images = new Town[IMAGES];
        for (int k = 0; k < IMAGES; k++) {
            images[k] = new Town();
        }
        reader = new Reader();
        acts = new Acts();
        town = new Town();
        trial = new Town();
        bodies = new int[MOST_TRACE];
    }

    // ---- rows

    public int row(int row, int lane, int n) {
        if (!isRow(row) || !within(lane, 0, LANES - 1) || n > MOST_ITEMS) {
            return BAD;
        }
        if (n < 0) {
            return found(SIZE);
        }
        rows[row].make(lane, n);
        return unfound(n);
    }

    public int set(int row, int i, int v) {
        if (!isRow(row)) {
            return BAD;
        }
        if (!rows[row].there) {
            return found(NULL);
        }
        if (!rows[row].holds(i, 1)) {
            return found(PLACE);
        }
        return unfound(rows[row].put(i, v));
    }

    public int copy(int a, int i, int b, int j, int n) {
        if (!isRow(a) || !isRow(b)) {
            return BAD;
        }
        Row from = rows[a];
        Row to = rows[b];
        if (!from.there || !to.there) {
            return found(NULL);
        }
        if (from.lane != to.lane) {
            return found(STORE);
        }
        if (!from.holds(i, n) || !to.holds(j, n)) {
            return found(PLACE);
        }
        System.arraycopy(from.items, i, to.items, j, n);
        return unfound(n);
    }

    public int drop(int row) {
        if (!isRow(row)) {
            return BAD;
        }
        if (!rows[row].there) {
            return found(NULL);
        }
        rows[row].there = false;
        return unfound(rows[row].size);
    }

    // ---- what is told

    public int feed(int letter) {
        if (!within(letter, 0, 255)) {
            return BAD;
        }
        return reader.add(letter) ? reader.size : FULL;
    }

    public int town() {
        if (!reader.read(trial)) {
            latestFault = reader.fault;
            return FAULTS - reader.place;
        }
        town.copyFrom(trial);
        acts.forget();
        return town.leavers;
    }

    public int fault() {
        return latestFault;
    }

    public int undo() {
        return acts.takeBack(town) ? acts.size : STATE;
    }

    // ---- what is done

    public int days(int n) {
        if (!hasTown()) {
            return STATE;
        }
        if (!within(n, 1, MOST_ACTS)) {
            return BAD;
        }
        if (town.day + n > LAST_DAY) {
            return FULL;
        }
        for (int i = 0; i < n; i++) {
            acts.keep(town);
            town.passDay();
        }
        return town.feltByAll();
    }

    public int send(int leaver, int house) {
        if (!isLeaver(leaver) || !isMan(house)) {
            return BAD;
        }
        int before = town.house[leaver];
        acts.keep(town);
        town.sendTo(leaver, house);
        return before;
    }

    public int weight(int leaver, int n) {
        if (!isLeaver(leaver) || !within(n, 1, 9)) {
            return BAD;
        }
        int before = town.weight[leaver];
        acts.keep(town);
        town.weight[leaver] = n;
        return before;
    }

    public int bar(int man, int on) {
        if (!isMan(man) || !isBit(on)) {
            return BAD;
        }
        if (bit(town.barred, man) == on) {
            return STATE;
        }
        acts.keep(town);
        town.barred ^= 1 << man;
        return town.barred;
    }

    public int patience(int man, int n) {
        if (!isMan(man) || !within(n, 0, 9)) {
            return BAD;
        }
        int before = town.patience[man];
        acts.keep(town);
        town.patience[man] = n;
        return before;
    }

    public int leaver(int leaver, int what) {
        if (!isLeaver(leaver)) {
            return BAD;
        }
        switch (what) {
            case 0: return town.house[leaver];
            case 1: return town.weight[leaver];
            case 2: return town.pace[leaver];
            case 3: return town.houseToday(leaver);
            case 4: return town.makesToday(leaver);
            case 5: return town.timesAway(leaver, town.houseToday(leaver));
            default: return BAD;
        }
    }

    public int man(int man, int what) {
        if (!isMan(man)) {
            return BAD;
        }
        switch (what) {
            case 0: return town.feels[man];
            case 1: return town.patience[man];
            case 2: return bit(town.barred, man);
            case 3: return town.awayFrom(man);
            case 4: return town.madeAt(man);
            default: return BAD;
        }
    }

    // ---- foretold

    public int ahead(int man, int n) {
        if (!isMan(man) || !within(n, 0, FAR)) {
            return BAD;
        }
        trial.copyFrom(town);
        trial.passDays(n);
        return trial.feels[man];
    }

    public int awayAhead(int man, int n) {
        if (!isMan(man) || !within(n, 0, FAR)) {
            return BAD;
        }
        trial.copyFrom(town);
        trial.day += n;
        return trial.awayFrom(man);
    }

    public int first(int man) {
        if (!isMan(man)) {
            return BAD;
        }
        trial.copyFrom(town);
        for (int n = 1; n <= FAR; n++) {
            if (trial.awayFrom(man) == 0) {
                return n;
            }
            trial.day++;
        }
        return NONE;
    }

    public int reach(int man, int v) {
        if (!isMan(man) || !within(v, 1, MOST_FELT)) {
            return BAD;
        }
        trial.copyFrom(town);
        for (int n = 0; n <= FAR; n++) {
            if (trial.feels[man] >= v) {
                return n;
            }
            trial.passDay();
        }
        return NONE;
    }

    public int usual(int man, int n) {
        if (!isMan(man) || !within(n, 1, FAR)) {
            return BAD;
        }
        trial.copyFrom(town);
        int times = 0;
        for (int i = 0; i < n; i++) {
            times += bit(trial.passDay(), man);
        }
        return times;
    }

    public int fewest(int men, int n, int v, int what) {
        if (!hasTown()) {
            return STATE;
        }
        if (!within(men, 0, (1 << town.men) - 1) || !within(n, 1, 30)
                || !within(v, 1, MOST_FELT) || !isBit(what)) {
            return BAD;
        }
        for (int many = 0; many <= town.leavers; many++) {
            for (int set = 0; set < 1 << town.leavers; set++) {
                if (Integer.bitCount(set) == many && allFeel(men, n, v, set)) {
                    return what == 0 ? many : set;
                }
            }
        }
        return NONE;
    }

    public int bestHouse(int leaver, int n, int what) {
        if (!isLeaver(leaver) || !within(n, 1, FAR) || !isBit(what)) {
            return BAD;
        }
        int best = 0;
        int most = -1;
        for (int house = 0; house < town.men; house++) {
            trial.copyFrom(town);
            trial.sendTo(leaver, house);
            trial.passDays(n);
            int felt = trial.feltByAll();
            if (felt > most) {
                most = felt;
                best = house;
            }
        }
        return what == 0 ? best : most;
    }

    public int tells(int n, int what) {
        if (!hasTown()) {
            return STATE;
        }
        if (!within(n, 1, FAR) || !isBit(what)) {
            return BAD;
        }
        int told = 0;
        int least = feltWithout(0, n);
        for (int one = 1; one < town.leavers; one++) {
            int felt = feltWithout(one, n);
            if (felt < least) {
                least = felt;
                told = one;
            }
        }
        if (what == 0) {
            return told;
        }
        trial.copyFrom(town);
        trial.passDays(n);
        return 1000 + trial.feltByAll() - least;
    }

    public int who(int leaver, int man, int row, int i, int n) {
        return fitting(BY_KIND, leaver, man, row, i, n);
    }

    public int houses(int leaver, int man, int row, int i, int n) {
        return fitting(BY_HOUSE, leaver, man, row, i, n);
    }

    public int weights(int leaver, int man, int row, int i, int n) {
        return fitting(BY_WEIGHT, leaver, man, row, i, n);
    }

    public int absent(int man, int row, int i, int n) {
        int refusal = refusalOfTold(man, row, i, n);
        if (refusal != 0) {
            return refusal;
        }
        trial.copyFrom(town);
        int fitting = trialFits(man, rows[row], i, n) ? AS_IT_IS : 0;
        for (int one = 0; one < town.leavers; one++) {
            trial.copyFrom(town);
            trial.home = 1 << one;
            if (trialFits(man, rows[row], i, n)) {
                fitting |= 1 << one;
            }
        }
        return fitting;
    }

    public int greets(int what) {
        if (!hasTown()) {
            return STATE;
        }
        if (!isBit(what)) {
            return BAD;
        }
        int pairs = 0;
        int firstPair = NONE;
        for (int man = 0; man + 1 < town.men; man++) {
            if (isFree(man) && isFree(man + 1)) {
                pairs++;
                if (firstPair == NONE) {
                    firstPair = 10 * man + man + 1;
                }
            }
        }
        return what == 0 ? pairs : firstPair;
    }

    public int talk(int man, int other) {
        if (!isMan(man) || !isMan(other) || man == other) {
            return BAD;
        }
        for (int between = Math.min(man, other); between <= Math.max(man, other); between++) {
            if (bit(town.barred, between) == 1) {
                return 0;
            }
        }
        return 1;
    }

    public int alone() {
        if (!hasTown()) {
            return STATE;
        }
        int most = 0;
        int those = 0;
        for (int man = 0; man < town.men; man++) {
            if (town.feels[man] > most) {
                most = town.feels[man];
                those = 0;
            }
            if (town.feels[man] == most) {
                those |= 1 << man;
            }
        }
        return those;
    }

    public long rain(int man, int v, int p, int what) {
        if (!isMan(man) || !within(v, 0, MOST_FELT) || !within(p, 0, 10) || !isBit(what)) {
            return BAD;
        }
        int wet = town.ofKind(WET);
        long above = 0;
        for (int home = 0; home < 1 << town.leavers; home++) {
            if ((home & ~wet) == 0 && feelsWithout(man, v, home)) {
                above += cases(home, wet, p);
            }
        }
        long below = power(10, Integer.bitCount(wet));
        long common = commonDivisor(above, below);
        return (what == 0 ? above : below) / Math.max(1, common);
    }

    public int drawn(int n, int seed, int what) {
        if (!hasTown()) {
            return STATE;
        }
        if (!within(n, 0, FAR) || !within(seed, 1, 999999) || !isBit(what)) {
            return BAD;
        }
        trial.copyFrom(town);
        long x = seed;
        int usedDays = 0;
        for (int i = 0; i < n; i++) {
            x = x * 16807 % 2147483647L;
            trial.sendByDraw(x);
            if (trial.passDay() != 0) {
                usedDays++;
            }
        }
        return what == 0 ? trial.feltByAll() : usedDays;
    }

    public int image(int k) {
        if (!within(k, 0, IMAGES - 1)) {
            return BAD;
        }
        if (!hasTown()) {
            return STATE;
        }
        images[k].copyFrom(town);
        return 1;
    }

    public int restore(int k) {
        if (!within(k, 0, IMAGES - 1)) {
            return BAD;
        }
        if (images[k].men == 0) {
            return STATE;
        }
        town.copyFrom(images[k]);
        acts.forget();
        return 1;
    }

    // ---- asked

    public int kind(int one) {
        return isLeaver(one) ? town.kind[one] : BAD;
    }

    public int as(int one, int kind) {
        if (!isLeaver(one) || !within(kind, LEAVER, WET)) {
            return BAD;
        }
        int is = town.kind[one];
        for (int steps = 0; steps <= WET && is > kind; steps++) {
            is = ABOVE[is];
        }
        return is == kind ? unfound(one) : found(KIND);
    }

    public int ask(int one, int what) {
        if (!isLeaver(one) || !isBit(what)) {
            return BAD;
        }
        begun = 0;
        return body(what == 0 ? sizeBody(one) : markBody(one), one, 0);
    }

    public int trace(int i) {
        return within(i, 0, begun - 1) ? bodies[i] : NONE;
    }

    public int count(int what) {
        switch (what) {
            case 0: return rowsThere();
            case 1: return town.men;
            case 2: return town.leavers;
            case 3: return town.day;
            case 4: return town.feltByAll();
            case 5: return town.barred;
            case 6: return acts.size;
            case 7: return reader.size;
            default: return BAD;
        }
    }

    public int status() {
        return latestFinding;
    }

    // ---- what numbers are as told

    private static boolean within(int n, int least, int most) {
        return n >= least && n <= most;
    }

    private static boolean isBit(int n) {
        return n == 0 || n == 1;
    }

    private static int bit(int set, int i) {
        return set >> i & 1;
    }

    private boolean isRow(int row) {
        return within(row, 0, MOST_ROWS - 1);
    }

    private boolean isMan(int man) {
        return within(man, 0, town.men - 1);
    }

    private boolean isLeaver(int one) {
        return within(one, 0, town.leavers - 1);
    }

    private boolean hasTown() {
        return town.men > 0;
    }

    private int found(int finding) {
        latestFinding = finding;
        return FINDINGS - finding;
    }

    private int unfound(int answer) {
        latestFinding = 0;
        return answer;
    }

    private int rowsThere() {
        int there = 0;
        for (int i = 0; i < MOST_ROWS; i++) {
            if (rows[i].there) {
                there++;
            }
        }
        return there;
    }

    // ---- parts of what is foretold

    /** 0 where a row can be taken for what a MAN FEELS; the refusal, or what is found, where not. */
    private int refusalOfTold(int man, int row, int i, int n) {
        if (!isMan(man) || !isRow(row) || !within(n, 1, TOLD_DAYS)) {
            return BAD;
        }
        if (!rows[row].there) {
            return found(NULL);
        }
        if (!rows[row].holds(i, n)) {
            return found(PLACE);
        }
        return unfound(0);
    }

    /** KINDS, houses or WEIGHTS (bits) of a LEAVER by which a row tells what a MAN will FEEL. */
    private int fitting(int by, int leaver, int man, int row, int i, int n) {
        if (!isLeaver(leaver)) {
            return BAD;
        }
        int refusal = refusalOfTold(man, row, i, n);
        if (refusal != 0) {
            return refusal;
        }
        int least = by == BY_HOUSE ? 0 : 1;
        int most = by == BY_KIND ? WET : by == BY_HOUSE ? town.men - 1 : 9;
        int those = 0;
        for (int other = least; other <= most; other++) {
            trial.copyFrom(town);
            changeTrial(by, leaver, other);
            if (trialFits(man, rows[row], i, n)) {
                those |= 1 << other;
            }
        }
        return those;
    }

    private void changeTrial(int by, int leaver, int other) {
        if (by == BY_KIND) {
            trial.kind[leaver] = other;
        } else if (by == BY_HOUSE) {
            trial.sendTo(leaver, other);
        } else {
            trial.weight[leaver] = other;
        }
    }

    private boolean trialFits(int man, Row told, int i, int n) {
        for (int day = 0; day < n; day++) {
            trial.passDay();
            if (trial.feels[man] != told.items[i + day]) {
                return false;
            }
        }
        return true;
    }

    private boolean allFeel(int men, int n, int v, int staying) {
        trial.copyFrom(town);
        trial.home = ~staying;
        trial.passDays(n);
        for (int man = 0; man < town.men; man++) {
            if (bit(men, man) == 1 && trial.feels[man] < v) {
                return false;
            }
        }
        return true;
    }

    private int feltWithout(int one, int n) {
        trial.copyFrom(town);
        trial.home = 1 << one;
        trial.passDays(n);
        return trial.feltByAll();
    }

    private boolean feelsWithout(int man, int v, int home) {
        trial.copyFrom(town);
        trial.home = home;
        trial.passDay();
        return trial.feels[man] >= v;
    }

    private boolean isFree(int man) {
        return bit(town.barred, man) == 0 && town.awayFrom(man) == 0;
    }

    /** In how many of 10 by 10 by .. cases just these of the wet ones are sent home. */
    private static long cases(int home, int wet, int p) {
        int gone = Integer.bitCount(home);
        return power(p, gone) * power(10 - p, Integer.bitCount(wet) - gone);
    }

    private static long power(long base, int times) {
        long product = 1;
        for (int i = 0; i < times; i++) {
            product *= base;
        }
        return product;
    }

    private static long commonDivisor(long a, long b) {
        for (int steps = 0; steps < 100 && b != 0; steps++) {
            long rest = a % b;
            a = b;
            b = rest;
        }
        return a;
    }

    // ---- bodies of asks

    private static int nearestBody(int[] told, int kind) {
        int is = kind;
        for (int steps = 0; steps <= WET && is > LEAVER && told[is] == 0; steps++) {
            is = ABOVE[is];
        }
        return told[is];
    }

    private int sizeBody(int one) {
        return nearestBody(SIZE_BODIES, town.kind[one]);
    }

    private int markBody(int one) {
        return nearestBody(MARK_BODIES, town.kind[one]);
    }

    private void leaveInTrace(int number) {
        if (begun < MOST_TRACE) {
            bodies[begun] = number;
            begun++;
        }
    }

    private int body(int number, int one, int depth) {
        if (depth > DEEPEST_BODY) {
            return 0;
        }
        leaveInTrace(number);
        int deeper = depth + 1;
        switch (number) {
            case 10: return town.weight[one];
            case 11: return body(10, one, deeper) + body(markBody(one), one, deeper);
            case 12: return -body(11, one, deeper);
            case 13: return body(10, one, deeper) - 100;
            case 14: return 2 * body(13, one, deeper);
            case 20: return one;
            case 21: return body(20, one, deeper) + town.makesToday(one);
            case 22: return body(21, one, deeper) - 1000;
            case 23: return body(20, one, deeper) - body(sizeBody(one), one, deeper);
            case 24: return 2 * body(21, one, deeper);
            default: return 0;
        }
    }

    /** A ROW; its items are made once and used again by each ROW that comes to its place. */
    private static final class Row {
        final int[] items = new int[MOST_ITEMS];
        boolean there;
        int lane;
        int size;

        void make(int newLane, int n) {
            for (int i = 0; i < MOST_ITEMS; i++) {
                items[i] = 0;
            }
            there = true;
            lane = newLane;
            size = n;
        }

        boolean holds(int i, int n) {
            return i >= 0 && n >= 0 && i <= size - n;
        }

        int put(int i, int v) {
            items[i] = lane == 0 ? (byte) v : lane == 1 ? (short) v : v;
            return items[i];
        }
    }

    /** MEN, LEAVERS, the law and the DAY: all that an ACT can change, and all that an IMAGE keeps. */
    private static final class Town {
        final int[] feels = new int[MOST_MEN];
        final int[] patience = new int[MOST_MEN];
        final int[] kind = new int[MOST_LEAVERS];
        final int[] house = new int[MOST_LEAVERS];
        final int[] weight = new int[MOST_LEAVERS];
        final int[] pace = new int[MOST_LEAVERS];
        /** By LEAVER and house: how often he was away from it since he was SENT. */
        private final int[] away = new int[MOST_LEAVERS * MOST_MEN];
        /** What is made felt in each house on the DAY that passes; worth nothing between DAYS. */
        private final int[] made = new int[MOST_MEN];
        /** How many there are; 0 MEN: no TOWN. */
        int men;
        int leavers;
        int used;
        int rainy;
        int day;
        int barred;
        /** LEAVERS (bits) sent home, away from no house; only in what is foretold. */
        int home;

        void clear() {
            men = 0;
            leavers = 0;
            day = 0;
            barred = 0;
            home = 0;
            for (int i = 0; i < away.length; i++) {
                away[i] = 0;
            }
        }

        void copyFrom(Town other) {
            men = other.men;
            leavers = other.leavers;
            used = other.used;
            rainy = other.rainy;
            day = other.day;
            barred = other.barred;
            home = other.home;
            System.arraycopy(other.feels, 0, feels, 0, MOST_MEN);
            System.arraycopy(other.patience, 0, patience, 0, MOST_MEN);
            System.arraycopy(other.kind, 0, kind, 0, MOST_LEAVERS);
            System.arraycopy(other.house, 0, house, 0, MOST_LEAVERS);
            System.arraycopy(other.weight, 0, weight, 0, MOST_LEAVERS);
            System.arraycopy(other.pace, 0, pace, 0, MOST_LEAVERS);
            System.arraycopy(other.away, 0, away, 0, MOST_LEAVERS * MOST_MEN);
        }

        int houseToday(int one) {
            return men > 0 ? (house[one] + pace[one] * day) % men : 0;
        }

        int timesAway(int one, int at) {
            return away[one * MOST_MEN + at];
        }

        int makesToday(int one) {
            switch (kind[one]) {
                case POINTED: return weight[one];
                case FAITHFUL: return weight[one] + Math.min(9, timesAway(one, houseToday(one)));
                case SUBSTITUTE: return weight[one] / 2;
                case WET: return isRainy() ? 2 * weight[one] : idly(one);
                default: return idly(one);
            }
        }

        private int idly(int one) {
            return day % 3 == 0 ? weight[one] : 0;
        }

        private boolean isRainy() {
            return 7 * day % 10 < rainy;
        }

        boolean isAway(int one, int from) {
            return bit(home, one) == 0 && houseToday(one) == from;
        }

        int awayFrom(int man) {
            int those = 0;
            for (int one = 0; one < leavers; one++) {
                if (isAway(one, man)) {
                    those |= 1 << one;
                }
            }
            return those;
        }

        int madeAt(int man) {
            int sum = 0;
            for (int one = 0; one < leavers; one++) {
                if (isAway(one, man)) {
                    sum += makesToday(one);
                }
            }
            return sum;
        }

        int feltByAll() {
            int sum = 0;
            for (int man = 0; man < men; man++) {
                sum += feels[man];
            }
            return sum;
        }

        int ofKind(int wanted) {
            int those = 0;
            for (int one = 0; one < leavers; one++) {
                if (kind[one] == wanted) {
                    those |= 1 << one;
                }
            }
            return those;
        }

        void sendTo(int one, int to) {
            house[one] = to;
            for (int at = 0; at < MOST_MEN; at++) {
                away[one * MOST_MEN + at] = 0;
            }
        }

        void sendByDraw(long x) {
            if (x % 4 == 0 && leavers > 0 && men > 0) {
                sendTo((int) (x % leavers), (int) (x % men));
            }
        }

        void passDays(int n) {
            for (int i = 0; i < n; i++) {
                passDay();
            }
        }

        /** A DAY passes: MEN (bits) who were USED to it. */
        int passDay() {
            int left = stayAway();
            int usedMen = 0;
            for (int man = 0; man < men; man++) {
                if (bit(left, man) == 0) {
                    feels[man] = Math.max(0, feels[man] - 1);
                } else if (made[man] > patience[man]) {
                    feels[man] = Math.min(MOST_FELT, feels[man] + made[man]);
                } else {
                    feels[man] = Math.max(0, feels[man] - used);
                    usedMen |= 1 << man;
                }
            }
            day++;
            return usedMen;
        }

        /** All LEAVERS are away for the DAY: the houses (bits) from which somebody was. */
        private int stayAway() {
            for (int man = 0; man < MOST_MEN; man++) {
                made[man] = 0;
            }
            int left = 0;
            for (int one = 0; one < leavers; one++) {
                if (bit(home, one) == 0) {
                    int at = houseToday(one);
                    made[at] += makesToday(one);
                    away[one * MOST_MEN + at]++;
                    left |= 1 << at;
                }
            }
            return left;
        }
    }

    /** The TOWN as it was ahead of each of the latest ACTS, in a ring. */
    private static final class Acts {
        private final Town[] before = new Town[MOST_ACTS];
        private int oldest;
        int size;

        Acts() {
            for (int i = 0; i < MOST_ACTS; i++) {
                before[i] = new Town();
            }
        }

        void forget() {
            size = 0;
        }

        void keep(Town town) {
            before[(oldest + size) % MOST_ACTS].copyFrom(town);
            if (size < MOST_ACTS) {
                size++;
            } else {
                oldest = (oldest + 1) % MOST_ACTS;
            }
        }

        boolean takeBack(Town town) {
            if (size == 0) {
                return false;
            }
            size--;
            town.copyFrom(before[(oldest + size) % MOST_ACTS]);
            return true;
        }
    }

    /** THE TAPE, and how it is read, TOKEN by TOKEN. */
    private static final class Reader {
        private static final int MISPLACED = 1, NOT_AS_TOLD = 2, NO_ROOM = 3;
        /** TOKENS that are no single byte. */
        private static final int END = -1, NUMBER = -2, LONG_RUN = -3;

        private final int[] tape = new int[MOST_BYTES];
        int size;
        int fault;
        int place;
        private int token;
        private int value;
        private int start;
        private int next;

        boolean add(int letter) {
            if (size >= MOST_BYTES) {
                return false;
            }
            tape[size] = letter;
            size++;
            return true;
        }

        /** Whether the tape, empty then, has a TOWN on it; if not, fault and place tell why. */
        boolean read(Town into) {
            into.clear();
            next = 0;
            advance();
            boolean fine = readLaw(into) && readMen(into) && readLeavers(into);
            size = 0;
            return fine;
        }

        private boolean readLaw(Town into) {
            if (!take('d')) {
                return false;
            }
            into.used = takeNumber(1, 9);
            if (into.used < 0 || !take(',')) {
                return false;
            }
            into.rainy = takeNumber(0, 9);
            return into.rainy >= 0 && take(';');
        }

        private boolean readMen(Town into) {
            for (int man = 0; man <= MOST_MEN; man++) {
                if (man > 0 && token != 'm') {
                    return true;
                }
                if (man == MOST_MEN) {
                    return failBy(NO_ROOM);
                }
                if (!readMan(into, man)) {
                    return false;
                }
                into.men++;
            }
            return false;
        }

        private boolean readMan(Town into, int man) {
            if (!take('m')) {
                return false;
            }
            into.feels[man] = takeNumber(0, 60);
            if (into.feels[man] < 0 || !take(',')) {
                return false;
            }
            into.patience[man] = takeNumber(0, 9);
            return into.patience[man] >= 0 && take(';');
        }

        private boolean readLeavers(Town into) {
            for (int one = 0; one <= MOST_LEAVERS; one++) {
                if (one > 0 && token == END) {
                    return true;
                }
                if (kindOfSort(token) == LEAVER) {
                    return failBy(MISPLACED);
                }
                if (one == MOST_LEAVERS) {
                    return failBy(NO_ROOM);
                }
                if (!readLeaver(into, one)) {
                    return false;
                }
                into.leavers++;
            }
            return false;
        }

        private boolean readLeaver(Town into, int one) {
            into.kind[one] = kindOfSort(token);
            advance();
            into.house[one] = takeNumber(0, into.men - 1);
            if (into.house[one] < 0 || !take(',')) {
                return false;
            }
            into.weight[one] = takeNumber(1, 9);
            if (into.weight[one] < 0 || !take(',')) {
                return false;
            }
            into.pace[one] = takeNumber(0, 4);
            return into.pace[one] >= 0 && take(';');
        }

        /** LEAVER where the TOKEN is no SORT. */
        private static int kindOfSort(int sort) {
            switch (sort) {
                case 'p': return POINTED;
                case 'f': return FAITHFUL;
                case 's': return SUBSTITUTE;
                case 'i': return IDLE;
                case 'w': return WET;
                default: return LEAVER;
            }
        }

        private boolean failBy(int number) {
            fault = number;
            place = start;
            return false;
        }

        private boolean take(int single) {
            if (token != single) {
                return failBy(MISPLACED);
            }
            advance();
            return true;
        }

        /** The NUMBER that stands there; -1 where none does, or it is not as told. */
        private int takeNumber(int least, int most) {
            if (token != NUMBER) {
                failBy(MISPLACED);
                return -1;
            }
            if (!within(value, least, most)) {
                failBy(NOT_AS_TOLD);
                return -1;
            }
            int number = value;
            advance();
            return number;
        }

        private void advance() {
            start = next;
            if (start >= size) {
                token = END;
                return;
            }
            token = tape[start];
            next = start + 1;
            if (!isFigure(token)) {
                return;
            }
            value = token - '0';
            while (next < size && isFigure(tape[next])) {
                value = (10 * value + tape[next] - '0') % 1000;
                next++;
            }
            token = next - start > 2 ? LONG_RUN : NUMBER;
        }

        private static boolean isFigure(int letter) {
            return letter >= '0' && letter <= '9';
        }
    }
}
