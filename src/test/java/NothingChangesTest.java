import java.util.ArrayList;
import java.util.List;

/**
 * "What is refused, or found, changes nothing but status()", and "FORETOLD (nothing changes)": each
 * such call is made on an object that has much to lose, and all that can be seen of it then is held
 * against its twin, on which the call was not made.
 */
public final class NothingChangesTest {
    private static final int NONE = LeftAlone.NONE, BAD = LeftAlone.BAD;
    private static final int STATE = LeftAlone.STATE, FULL = LeftAlone.FULL;
    private static final int NULL = -1000011, PLACE = -1000012, KIND = -1000013, SIZE = -1000014, STORE = -1000015;
    private static final int ANY = Integer.MAX_VALUE;
    private static final Due due = new Due("NothingChangesTest");

    private interface Call {
        long on(LeftAlone x);
    }

    private interface Making {
        LeftAlone make();
    }

    public static void main(String[] args) {
        due.says(0, "What is refused, or found, changes nothing but status().");
        bad();
        badOfFittings();
        state();
        noTown();
        fullTape();
        fullDays();
        found();
        faults();
        foretoldBehindOthers();
        due.says(0, "FORETOLD (nothing changes).");
        foretold();
        fittings();
        asks();
        due.end();
    }

    /** A TOWN with DAYS, ACTS, an IMAGE, ROWS, a FAULT, a TRACE, a tape that is not whole; status() 3. */
    private static LeftAlone rich() {
        LeftAlone x = new LeftAlone();
        Due.read(x, "d0");
        Due.read(x, "d2,4;m10,3;m5,0;m60,9;f0,3,1;p1,4,2;w2,5,0;s0,9,0;i1,1,0;");
        x.days(3);
        x.image(0);
        x.bar(1, 1);
        x.weight(0, 2);
        x.send(1, 2);
        x.patience(2, 4);
        x.days(2);
        x.row(0, 0, 3);
        for (int i = 0; i < 3; i++) {
            x.set(0, i, x.ahead(0, i + 1));
        }
        x.row(1, 1, 0);
        x.row(2, 2, 40);
        feed(x, "d1,0;m7,0;");
        x.ask(1, 0);
        x.as(0, 4);
        return x;
    }

    /** No TOWN, but ROWS, a FAULT and a tape that is not whole; status() 2. */
    private static LeftAlone bare() {
        LeftAlone x = new LeftAlone();
        Due.read(x, "d0");
        x.row(0, 0, 3);
        x.row(1, 1, 0);
        x.row(2, 2, 40);
        feed(x, "d1,0;m7,0;");
        x.set(0, 3, 0);
        return x;
    }

    private static LeftAlone withFullTape() {
        LeftAlone x = rich();
        for (int i = 11; i <= 120; i++) {
            x.feed('p');
        }
        return x;
    }

    private static LeftAlone onLastDay() {
        LeftAlone x = new LeftAlone();
        Due.read(x, "d2,4;m10,3;m5,0;m60,9;f0,3,1;p1,4,2;");
        for (int i = 0; i < 41; i++) {
            x.days(24);
        }
        x.days(14);
        return x;
    }

    private static void feed(LeftAlone x, String text) {
        for (int i = 0; i < text.length(); i++) {
            x.feed(text.charAt(i));
        }
    }

    private static void seeTown(LeftAlone x, List<Long> seen) {
        for (int what = 0; what <= 7; what++) {
            seen.add((long) x.count(what));
        }
        for (int man = 0; man < 3; man++) {
            for (int what = 0; what <= 4; what++) {
                seen.add((long) x.man(man, what));
            }
        }
        for (int one = 0; one < 5; one++) {
            seen.add((long) x.kind(one));
            for (int what = 0; what <= 5; what++) {
                seen.add((long) x.leaver(one, what));
            }
        }
        seen.add((long) x.drawn(20, 7, 0));
    }

    /** All that can be seen of an object but its status(); the object is used up by it. */
    private static List<Long> see(LeftAlone x) {
        List<Long> seen = new ArrayList<>();
        seen.add((long) x.fault());
        for (int i = 0; i <= 7; i++) {
            seen.add((long) x.trace(i));
        }
        seeTown(x, seen);
        seen.add((long) x.absent(0, 0, 0, 3));
        for (int row = 0; row < 3; row++) {
            seen.add((long) x.set(row, 0, 70000));
            seen.add((long) x.copy(row, 0, 2, 0, 0));
        }
        for (int row = 0; row < 8; row++) {
            seen.add((long) x.drop(row));
        }
        int left = 0;
        for (int i = 0; i <= 24 && left >= 0; i++) {
            left = x.undo();
            seen.add((long) left);
            seen.add((long) x.count(3));
            seen.add((long) x.count(4));
            seen.add((long) x.count(5));
            seen.add((long) x.leaver(0, 1));
            seen.add((long) x.leaver(1, 0));
            seen.add((long) x.leaver(0, 5));
            seen.add((long) x.man(2, 1));
        }
        for (int k = 1; k >= 0; k--) {
            seen.add((long) x.restore(k));
            seen.add((long) x.count(3));
            seen.add((long) x.count(4));
        }
        seeTown(x, seen);
        seen.add((long) x.feed('p'));
        feed(x, "0,1,0;");
        seen.add((long) x.town());
        seen.add((long) x.man(0, 0));
        return seen;
    }

    /** The call answers what is due, leaves the status() that is due, and the object as its twin is. */
    private static void same(String what, Making made, Call call, long want, int status) {
        LeftAlone x = made.make();
        long got = call.on(x);
        if (want != ANY) {
            due.is(what, got, want);
        }
        due.is(what + ": status()", x.status(), status);
        due.is(what + ": status() again", x.status(), status);
        LeftAlone twin = made.make();
        due.holds(what + " changes nothing", see(x).equals(see(twin)));
    }

    private static void refused(String what, Call call, long want) {
        same(what, NothingChangesTest::rich, call, want, 3);
    }

    private static void bad() {
        refused("row(8, 0, 1)", x -> x.row(8, 0, 1), BAD);
        refused("row(0, 3, 1)", x -> x.row(0, 3, 1), BAD);
        refused("row(0, 0, 41)", x -> x.row(0, 0, 41), BAD);
        refused("set(8, 0, 1)", x -> x.set(8, 0, 1), BAD);
        refused("copy(8, 0, 0, 0, 1)", x -> x.copy(8, 0, 0, 0, 1), BAD);
        refused("copy(0, 0, 8, 0, 1)", x -> x.copy(0, 0, 8, 0, 1), BAD);
        refused("drop(8)", x -> x.drop(8), BAD);
        refused("feed(256)", x -> x.feed(256), BAD);
        refused("feed(-1)", x -> x.feed(-1), BAD);
        refused("days(0)", x -> x.days(0), BAD);
        refused("days(25)", x -> x.days(25), BAD);
        refused("send(5, 0)", x -> x.send(5, 0), BAD);
        refused("send(0, 3)", x -> x.send(0, 3), BAD);
        refused("weight(5, 1)", x -> x.weight(5, 1), BAD);
        refused("weight(0, 0)", x -> x.weight(0, 0), BAD);
        refused("weight(0, 10)", x -> x.weight(0, 10), BAD);
        refused("bar(3, 1)", x -> x.bar(3, 1), BAD);
        refused("bar(0, 2)", x -> x.bar(0, 2), BAD);
        refused("patience(3, 1)", x -> x.patience(3, 1), BAD);
        refused("patience(0, 10)", x -> x.patience(0, 10), BAD);
        refused("patience(0, -1)", x -> x.patience(0, -1), BAD);
        refused("leaver(0, 6)", x -> x.leaver(0, 6), BAD);
        refused("man(0, 5)", x -> x.man(0, 5), BAD);
        refused("ahead(0, 61)", x -> x.ahead(0, 61), BAD);
        refused("awayAhead(0, 61)", x -> x.awayAhead(0, 61), BAD);
        refused("first(3)", x -> x.first(3), BAD);
        refused("reach(0, 0)", x -> x.reach(0, 0), BAD);
        refused("usual(0, 0)", x -> x.usual(0, 0), BAD);
        refused("fewest(8, 1, 1, 0)", x -> x.fewest(8, 1, 1, 0), BAD);
        refused("bestHouse(0, 61, 0)", x -> x.bestHouse(0, 61, 0), BAD);
        refused("tells(61, 0)", x -> x.tells(61, 0), BAD);
        refused("greets(2)", x -> x.greets(2), BAD);
        refused("talk(1, 1)", x -> x.talk(1, 1), BAD);
        refused("rain(0, 100, 0, 0)", x -> x.rain(0, 100, 0, 0), BAD);
        refused("drawn(0, 0, 0)", x -> x.drawn(0, 0, 0), BAD);
        refused("image(2)", x -> x.image(2), BAD);
        refused("restore(2)", x -> x.restore(2), BAD);
        refused("kind(5)", x -> x.kind(5), BAD);
        refused("as(5, 0)", x -> x.as(5, 0), BAD);
        refused("as(0, 6)", x -> x.as(0, 6), BAD);
        refused("ask(5, 0)", x -> x.ask(5, 0), BAD);
        refused("ask(0, 2)", x -> x.ask(0, 2), BAD);
        refused("trace(-1)", x -> x.trace(-1), NONE);
        refused("count(8)", x -> x.count(8), BAD);
    }

    private static void badOfFittings() {
        refused("who(5, 0, 0, 0, 1)", x -> x.who(5, 0, 0, 0, 1), BAD);
        refused("who(0, 0, 0, 0, 13)", x -> x.who(0, 0, 0, 0, 13), BAD);
        refused("houses(0, 3, 0, 0, 1)", x -> x.houses(0, 3, 0, 0, 1), BAD);
        refused("weights(0, 0, 8, 0, 1)", x -> x.weights(0, 0, 8, 0, 1), BAD);
        refused("absent(0, 0, 0, 0)", x -> x.absent(0, 0, 0, 0), BAD);
    }

    private static void state() {
        refused("bar(1, 1)", x -> x.bar(1, 1), STATE);
        refused("bar(0, 0)", x -> x.bar(0, 0), STATE);
        refused("restore(1)", x -> x.restore(1), STATE);
        same("undo()", () -> {
            LeftAlone x = rich();
            x.restore(0);
            return x;
        }, x -> x.undo(), STATE, 3);
    }

    private static void noTown() {
        Making bare = NothingChangesTest::bare;
        same("undo()", bare, x -> x.undo(), STATE, 2);
        same("days(1)", bare, x -> x.days(1), STATE, 2);
        same("days(0)", bare, x -> x.days(0), STATE, 2);
        same("send(0, 0)", bare, x -> x.send(0, 0), BAD, 2);
        same("weight(0, 1)", bare, x -> x.weight(0, 1), BAD, 2);
        same("bar(0, 1)", bare, x -> x.bar(0, 1), BAD, 2);
        same("patience(0, 1)", bare, x -> x.patience(0, 1), BAD, 2);
        same("fewest(0, 1, 1, 0)", bare, x -> x.fewest(0, 1, 1, 0), STATE, 2);
        same("tells(1, 0)", bare, x -> x.tells(1, 0), STATE, 2);
        same("greets(0)", bare, x -> x.greets(0), STATE, 2);
        same("alone()", bare, x -> x.alone(), STATE, 2);
        same("drawn(1, 1, 0)", bare, x -> x.drawn(1, 1, 0), STATE, 2);
        same("image(0)", bare, x -> x.image(0), STATE, 2);
        same("restore(0)", bare, x -> x.restore(0), STATE, 2);
        same("who(0, 0, 0, 0, 1)", bare, x -> x.who(0, 0, 0, 0, 1), BAD, 2);
        same("absent(0, 0, 0, 1)", bare, x -> x.absent(0, 0, 0, 1), BAD, 2);
        same("as(0, 0)", bare, x -> x.as(0, 0), BAD, 2);
        same("ask(0, 0)", bare, x -> x.ask(0, 0), BAD, 2);
    }

    private static void fullTape() {
        same("feed, full", NothingChangesTest::withFullTape, x -> x.feed('q'), FULL, 3);
        same("feed, full, no byte", NothingChangesTest::withFullTape, x -> x.feed(256), BAD, 3);
    }

    private static void fullDays() {
        same("days(2) on 998", NothingChangesTest::onLastDay, x -> x.days(2), FULL, 0);
        same("days(24) on 998", NothingChangesTest::onLastDay, x -> x.days(24), FULL, 0);
    }

    private static void found(String what, Call call, int finding) {
        same(what, NothingChangesTest::rich, call, finding, -1000010 - finding);
    }

    private static void found() {
        found("row(0, 0, -1)", x -> x.row(0, 0, -1), SIZE);
        found("row(3, 0, -1)", x -> x.row(3, 0, -1), SIZE);
        found("set(3, 0, 1)", x -> x.set(3, 0, 1), NULL);
        found("set(0, 3, 1)", x -> x.set(0, 3, 1), PLACE);
        found("set(0, -1, 1)", x -> x.set(0, -1, 1), PLACE);
        found("set(1, 0, 1)", x -> x.set(1, 0, 1), PLACE);
        found("copy(3, 0, 0, 0, 1)", x -> x.copy(3, 0, 0, 0, 1), NULL);
        found("copy(0, 0, 3, 0, 1)", x -> x.copy(0, 0, 3, 0, 1), NULL);
        found("copy(2, 0, 0, 0, 1)", x -> x.copy(2, 0, 0, 0, 1), STORE);
        found("copy(0, 1, 0, 0, 3)", x -> x.copy(0, 1, 0, 0, 3), PLACE);
        found("copy(0, 0, 0, 1, 3)", x -> x.copy(0, 0, 0, 1, 3), PLACE);
        found("copy(0, 0, 0, 1, -1)", x -> x.copy(0, 0, 0, 1, -1), PLACE);
        found("drop(3)", x -> x.drop(3), NULL);
        found("who(0, 0, 3, 0, 1)", x -> x.who(0, 0, 3, 0, 1), NULL);
        found("houses(0, 0, 0, 3, 1)", x -> x.houses(0, 0, 0, 3, 1), PLACE);
        found("weights(0, 0, 3, 0, 1)", x -> x.weights(0, 0, 3, 0, 1), NULL);
        found("absent(0, 0, 0, 4)", x -> x.absent(0, 0, 0, 4), PLACE);
        found("as(0, 5)", x -> x.as(0, 5), KIND);
    }

    /** A FAULT leaves all as it is but the tape and fault(): the twin's tape is emptied by another. */
    private static void faults() {
        due.says(7, "-1000100 less the place of a FAULT: all stays.");
        String[] texts = {"p0,1,0;m0,0;", "m0,0;m0,0;m0,0;m0,0;m0", "p0,1,0;q", "p1", "", "f0,9,1;x"};
        for (String text : texts) {
            LeftAlone x = rich();
            feed(x, text);
            due.holds("a FAULT", x.town() <= -1000100);
            due.is("status() stays", x.status(), 3);
            LeftAlone twin = rich();
            twin.town();
            List<Long> seen = see(x);
            List<Long> others = see(twin);
            seen.set(0, 0L);
            others.set(0, 0L);
            due.holds("a FAULT in '" + text + "' changes nothing", seen.equals(others));
        }
    }

    private static final Call[] FORETELLINGS = {
        x -> x.ahead(2, 9), x -> x.awayAhead(2, 9), x -> x.first(2), x -> x.reach(2, 99), x -> x.usual(2, 9),
        x -> x.fewest(7, 9, 9, 0), x -> x.fewest(4, 9, 60, 1), x -> x.bestHouse(4, 9, 0), x -> x.bestHouse(0, 9, 1),
        x -> x.tells(9, 0), x -> x.tells(9, 1), x -> x.who(0, 0, 0, 0, 1), x -> x.houses(2, 0, 0, 0, 1),
        x -> x.weights(2, 0, 0, 0, 1), x -> x.absent(0, 0, 0, 1), x -> x.rain(2, 60, 3, 0), x -> x.drawn(60, 4, 0)};

    /** What is foretold is of the TOWN that stands, whatever text or TOWN was read or told ahead of it. */
    private static void foretoldBehindOthers() {
        String[] faulty = {"d1,0;m0,0;p0,1,0;x", "d1,0;m0,0;m0,0;m0,0;m0,0;m0,0;p0,1,0;x", "x"};
        for (int k = 0; k < FORETELLINGS.length; k++) {
            Call call = FORETELLINGS[k];
            due.says(7, "-1000100 less the place of a FAULT: all stays.");
            long want = call.on(rich());
            for (String text : faulty) {
                LeftAlone x = rich();
                x.town();
                due.holds("a FAULT", Due.read(x, text) <= -1000100);
                due.is("foretelling " + k + " behind a FAULT", call.on(x), want);
            }
            due.says(35, "The TOWN is as an IMAGE kept it");
            LeftAlone other = rich();
            other.image(1);
            other.town();
            Due.read(other, "d1,0;m0,0;p0,1,0;");
            other.ahead(0, 60);
            other.restore(1);
            due.is("foretelling " + k + " behind another TOWN", call.on(other), want);
        }
    }

    private static void told(String what, Call call) {
        same(what, NothingChangesTest::rich, call, ANY, 3);
    }

    private static void foretold() {
        for (int man = 0; man < 3; man++) {
            int one = man;
            told("ahead", x -> x.ahead(one, 60));
            told("awayAhead", x -> x.awayAhead(one, 60));
            told("first", x -> x.first(one));
            told("reach", x -> x.reach(one, 99));
            told("usual", x -> x.usual(one, 60));
            told("bestHouse", x -> x.bestHouse(one, 60, 0));
            told("rain", x -> x.rain(one, 9, 3, 0));
            told("talk", x -> x.talk(one, (one + 1) % 3));
        }
        told("fewest", x -> x.fewest(7, 30, 99, 0));
        told("fewest: which", x -> x.fewest(1, 1, 1, 1));
        told("tells", x -> x.tells(60, 0));
        told("tells: how much", x -> x.tells(60, 1));
        told("greets", x -> x.greets(0));
        told("greets: the first", x -> x.greets(1));
        told("alone", x -> x.alone());
        told("drawn", x -> x.drawn(60, 999999, 0));
        told("drawn: on how many", x -> x.drawn(60, 4, 1));
        told("leaver", x -> x.leaver(0, 4));
        told("man", x -> x.man(0, 4));
        told("kind", x -> x.kind(0));
        told("count", x -> x.count(4));
        told("trace", x -> x.trace(0));
        told("fault", x -> x.fault());
    }

    private static void fittings() {
        Making rich = NothingChangesTest::rich;
        for (int n = 1; n <= 3; n++) {
            int many = n;
            same("who", rich, x -> x.who(0, 0, 0, 0, many), ANY, 0);
            same("houses", rich, x -> x.houses(1, 0, 0, 0, many), ANY, 0);
            same("weights", rich, x -> x.weights(3, 0, 0, 0, many), ANY, 0);
            same("absent", rich, x -> x.absent(0, 0, 0, many), ANY, 0);
            same("who, nothing fits", rich, x -> x.who(0, 0, 2, 9, many), 0, 0);
        }
    }

    /** An ask changes THE TRACE alone: the same ask made twice leaves what it left at first. */
    private static void asks() {
        due.says(38, "THE TRACE is empty ahead of it.");
        told("the ask that was", x -> x.ask(1, 0));
        due.says(37, "A LEAVER is taken as one of a KIND (0 .. 5): its number.");
        same("as(0, 1)", NothingChangesTest::rich, x -> x.as(0, 1), 0, 0);
        same("as(4, 4)", NothingChangesTest::rich, x -> x.as(4, 4), 4, 0);
    }
}
