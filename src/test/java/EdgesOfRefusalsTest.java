/** What the Terms say of all calls: numbers from 0 on, and which refusal is the first that fits. */
public final class EdgesOfRefusalsTest {
    private static final int BAD = LeftAlone.BAD, STATE = LeftAlone.STATE, FULL = LeftAlone.FULL;
    private static final int NONE = LeftAlone.NONE, NULL = -1000011, PLACE = -1000012, KIND = -1000013;
    private static final int SIZE = -1000014, STORE = -1000015;
    private static final String TOWN = "d1,0;m5,0;m6,0;p0,1,0;i1,2,0;";
    private static final Due due = new Due("EdgesOfRefusalsTest");

    public static void main(String[] args) {
        numbersFromNothingOn();
        badAheadOfState();
        stateAheadOfBad();
        badAheadOfFull();
        badAheadOfFindings();
        firstInTime();
        due.end();
    }

    private static void numbersFromNothingOn() {
        due.says(0, "Numbers go from 0 on.");
        LeftAlone x = Due.of(TOWN);
        due.is("ROW 0", x.row(0, 0, 1), 1);
        due.is("ROW -1", x.row(-1, 0, 1), BAD);
        due.is("LANE -1", x.row(0, -1, 1), BAD);
        due.is("place 0", x.set(0, 0, 3), 3);
        due.is("place -1", x.set(0, -1, 3), PLACE);
        due.is("MAN 0", x.man(0, 0), 5);
        due.is("MAN -1", x.man(-1, 0), BAD);
        due.is("what -1 of a MAN", x.man(0, -1), BAD);
        due.is("LEAVER 0", x.leaver(0, 1), 1);
        due.is("LEAVER -1", x.leaver(-1, 1), BAD);
        due.is("what -1 of a LEAVER", x.leaver(0, -1), BAD);
        due.is("house 0", x.send(0, 0), 0);
        due.is("house -1", x.send(0, -1), BAD);
        due.is("KIND 0", x.as(0, 0), 0);
        due.is("KIND -1", x.as(0, -1), BAD);
        due.is("ASK 0", x.ask(1, 0), -98);
        due.is("ASK -1", x.ask(1, -1), BAD);
        due.is("TRACE 0", x.trace(0), 13);
        due.is("TRACE -1", x.trace(-1), NONE);
        due.is("IMAGE 0", x.image(0), 1);
        due.is("IMAGE -1", x.image(-1), BAD);
        due.is("count(0)", x.count(0), 1);
        due.is("count(-1)", x.count(-1), BAD);
    }

    private static void badAheadOfState() {
        due.says(0, "Refusals are answers, the first of these that fits, but as told: BAD (a number is not as told; there is no such thing), STATE (as told)");
        LeftAlone x = Due.of(TOWN);
        due.is("bar(0, 0)", x.bar(0, 0), STATE);
        due.is("bar(2, 0)", x.bar(2, 0), BAD);
        due.is("bar(0, -1)", x.bar(0, -1), BAD);
        due.is("restore(1)", x.restore(1), STATE);
        due.is("restore(2)", x.restore(2), BAD);
        LeftAlone none = new LeftAlone();
        due.is("no TOWN: image(1)", none.image(1), STATE);
        due.is("no TOWN: image(2)", none.image(2), BAD);
        due.is("no TOWN: restore(1)", none.restore(1), STATE);
        due.is("no TOWN: restore(2)", none.restore(2), BAD);
    }

    private static void stateAheadOfBad() {
        LeftAlone none = new LeftAlone();
        LeftAlone x = Due.of(TOWN);
        due.says(10, "STATE: no TOWN (ahead of BAD)");
        due.is("no TOWN: days(0)", none.days(0), STATE);
        due.is("days(0)", x.days(0), BAD);
        due.says(22, "STATE: no TOWN (ahead of BAD)");
        due.is("no TOWN: fewest(4, 1, 1, 0)", none.fewest(4, 1, 1, 0), STATE);
        due.is("fewest(4, 1, 1, 0)", x.fewest(4, 1, 1, 0), BAD);
        due.says(24, "STATE: no TOWN (ahead of BAD)");
        due.is("no TOWN: tells(0, 0)", none.tells(0, 0), STATE);
        due.is("tells(0, 0)", x.tells(0, 0), BAD);
        due.says(29, "STATE: no TOWN (ahead of BAD)");
        due.is("no TOWN: greets(2)", none.greets(2), STATE);
        due.is("greets(2)", x.greets(2), BAD);
        due.says(33, "STATE: no TOWN (ahead of BAD)");
        due.is("no TOWN: drawn(0, 0, 0)", none.drawn(0, 0, 0), STATE);
        due.is("drawn(0, 0, 0)", x.drawn(0, 0, 0), BAD);
    }

    private static void badAheadOfFull() {
        due.says(0, "STATE (as told), FULL (as told), then FINDINGS");
        LeftAlone x = Due.of(TOWN);
        for (int i = 0; i < 120; i++) {
            x.feed('d');
        }
        due.is("feed(0), full", x.feed(0), FULL);
        due.is("feed(256), full", x.feed(256), BAD);
        for (int i = 0; i < 41; i++) {
            x.days(24);
        }
        due.is("days(16) on 984", x.days(16), FULL);
        due.is("days(25) on 984", x.days(25), BAD);
        due.is("days(0) on 984", x.days(0), BAD);
        due.is("days(15) on 984", x.days(15), x.count(4));
    }

    private static void badAheadOfFindings() {
        due.says(0, "FULL (as told), then FINDINGS, of several the first in time");
        LeftAlone x = Due.of(TOWN);
        x.row(0, 0, 2);
        due.is("row(0, 2, -1)", x.row(0, 2, -1), SIZE);
        due.is("row(0, 3, -1)", x.row(0, 3, -1), BAD);
        due.is("copy(5, 0, 0, 0, 1)", x.copy(5, 0, 0, 0, 1), NULL);
        due.is("copy(5, 0, 8, 0, 1)", x.copy(5, 0, 8, 0, 1), BAD);
        due.is("who(0, 0, 5, 0, 1)", x.who(0, 0, 5, 0, 1), NULL);
        due.is("who(2, 0, 5, 0, 1)", x.who(2, 0, 5, 0, 1), BAD);
        due.is("houses(0, 0, 0, 2, 1)", x.houses(0, 0, 0, 2, 1), PLACE);
        due.is("houses(0, 2, 0, 2, 1)", x.houses(0, 2, 0, 2, 1), BAD);
        due.is("weights(0, 0, 0, 0, 12)", x.weights(0, 0, 0, 0, 12), PLACE);
        due.is("weights(0, 0, 0, 0, 13)", x.weights(0, 0, 0, 0, 13), BAD);
        due.is("absent(0, 5, 0, 1)", x.absent(0, 5, 0, 1), NULL);
        due.is("absent(0, 5, 0, 0)", x.absent(0, 5, 0, 0), BAD);
        due.is("as(0, 5)", x.as(0, 5), KIND);
        due.is("as(0, 6)", x.as(0, 6), BAD);
    }

    private static void firstInTime() {
        due.says(0, "then FINDINGS, of several the first in time");
        LeftAlone x = Due.of(TOWN);
        x.row(0, 0, 2);
        x.row(1, 1, 2);
        due.is("set, missing, no such place", x.set(5, 9, 0), NULL);
        due.is("set, no such place", x.set(0, 9, 0), PLACE);
        due.is("copy, missing, no such place", x.copy(0, 9, 5, 9, 9), NULL);
        due.is("copy, two LANES, no such place", x.copy(0, 9, 1, 9, 9), STORE);
        due.is("copy, no such place", x.copy(0, 9, 0, 9, 9), PLACE);
        due.is("who, missing, no such place", x.who(0, 0, 5, 9, 9), NULL);
        due.is("houses, missing, no such place", x.houses(0, 0, 5, -1, 9), NULL);
        due.is("weights, missing, no such place", x.weights(0, 0, 5, 40, 9), NULL);
        due.is("absent, missing, no such place", x.absent(0, 5, 9, 9), NULL);
    }
}
