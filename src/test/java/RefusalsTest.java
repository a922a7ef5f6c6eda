import java.util.ArrayList;
import java.util.List;

/**
 * Each call that can be refused, with every reason for which it can be, alone and together with every other:
 * the answer is the first that fits, and nothing changes.
 */
public final class RefusalsTest {
    private static final int UNKNOWN = -2, OUTSIDE = -3, NOT = -4, FULL = -5;
    private static final int GOOD = 0;
    private static final int LEAST = Integer.MIN_VALUE, MOST = Integer.MAX_VALUE;
    private static final String RULE = "Refused, and nothing changes: UNKNOWN (no such CELL, PERSON), OUTSIDE (another "
        + "number is not as told), NOT (not now: a PERSON that is nowhere; as told), FULL: the first of these that fits.";
    private static final Check check = new Check();

    /** One way to fill some arguments of a call, and why the call is refused then. */
    record Given(int reason, int... values) { }

    interface Call {
        int on(EchoFines x, int[] arguments);
    }

    public static void main(String[] args) {
        write();
        canyon();
        cellPersonLaw();
        cryAndCosts();
        soundsLedWhisper();
        owedAndPay();
        standFallChanged();
        noteAndWho();
        livingAndCancel();
        keepBackCount();
        check.end();
    }

    // ---- the states in which calls are refused

    /** 0 rock, 11 rock, a and b at 1, c at 6; d, e, f nowhere; laws, night, debts, cries, notes, two images, half a text. */
    private static EchoFines some() {
        EchoFines x = Check.told("plan 4 3;rock 0 0 30;rock 3 2 0;at a 1 0;at b 1 0;at c 2 1;at d 3 0;law 9 3 7;law 1 0 2",
            "night 22 3 4;fade 0");
        x.cry(0, 50, false, 23);
        x.note(1, 40);
        x.keep(0);
        x.cry(3, 9, true, 12);
        x.note(2, 41);
        x.fall(3);
        x.keep(1);
        x.fall(3);
        x.cry(2, 20, false, 2);
        x.forget();
        x.note(0, 42);
        Check.write(x, "fade 2;free");
        return x;
    }

    private static EchoFines withTwentyCries() {
        EchoFines x = some();
        while (x.count(5) < 20) x.cry(1, 12, false, 7);
        return x;
    }

    private static EchoFines withTwelveNotes() {
        EchoFines x = some();
        while (x.count(6) < 12) x.note(2, 50);
        return x;
    }

    private static EchoFines withBytes(int many) {
        EchoFines x = some();
        x.erase();
        Check.write(x, " ".repeat(many - 6) + "fade 3");
        return x;
    }

    private static EchoFines withFault() {
        EchoFines x = some();
        Check.write(x, ";plan 1 1;law 1 1 1;x");
        return x;
    }

    private static EchoFines whereNothingWasKept() {
        EchoFines x = Check.told("plan 5 1;rock 4 0 0;at a 0 0;at b 2 0;law 1 0 5");
        x.keep(0);
        x.keep(1);
        Check.tell(x, "fade 1");
        x.cry(0, 20, false, 0);
        x.note(1, 5);
        return x;
    }

    private static EchoFines whereNobodyFits() {
        EchoFines x = some();
        x.note(0, 0);
        return x;
    }

    private static final int SOME = 0, CRIES = 1, NOTES = 2, BYTES_193 = 3, BYTES_200 = 4, FAULT = 5, NOTHING_KEPT = 6;
    private static final int NOBODY = 7;

    private static EchoFines made(int state) {
        switch (state) {
            case CRIES: return withTwentyCries();
            case NOTES: return withTwelveNotes();
            case BYTES_193: return withBytes(193);
            case BYTES_200: return withBytes(200);
            case FAULT: return withFault();
            case NOTHING_KEPT: return whereNothingWasKept();
            case NOBODY: return whereNobodyFits();
            default: return some();
        }
    }

    // ---- what can be seen of an object

    private static void lookAtState(EchoFines x, List<Integer> seen) {
        for (int what = 0; what <= 10; what++) seen.add(x.count(what));
        for (int cell = 0; cell < 12; cell++) {
            for (int what = 0; what < 3; what++) seen.add(x.cell(cell, what));
        }
        for (int one = 0; one < 6; one++) {
            for (int what = 0; what < 3; what++) seen.add(x.person(one, what));
            for (int other = 0; other < one; other++) seen.add(x.owed(one, other));
        }
        for (int person = 0; person < 4; person++) seen.add(x.who(person, 20, false, 2));
        seen.add(x.living(0));
        seen.add(x.living(1));
    }

    /** All that tells one state from another, what was kept and what is written too; some 330 calls. */
    private static List<Integer> seenOf(EchoFines x) {
        List<Integer> seen = new ArrayList<>();
        lookAtState(x, seen);
        for (int law = 0; law < 6; law++) {
            for (int what = 0; what < 3; what++) seen.add(x.law(law, what));
        }
        seen.add(x.fault());
        for (int k = 0; k < 2; k++) {
            seen.add(x.back(k));
            lookAtState(x, seen);
        }
        seen.add(x.canyon());
        for (int what = 0; what <= 10; what++) seen.add(x.count(what));
        return seen;
    }

    private static final List<List<Integer>> SEEN = new ArrayList<>();

    private static List<Integer> seenUntouched(int state) {
        while (SEEN.size() <= state) SEEN.add(seenOf(made(SEEN.size())));
        return SEEN.get(state);
    }

    // ---- every choice of arguments

    private static Given[] of(Given... choices) {
        return choices;
    }

    private static Given good(int... values) {
        return new Given(GOOD, values);
    }

    private static Given unknown(int... values) {
        return new Given(UNKNOWN, values);
    }

    private static Given outside(int... values) {
        return new Given(OUTSIDE, values);
    }

    private static Given not(int... values) {
        return new Given(NOT, values);
    }

    /** Choices of one argument: values that are as told, and values that are not, for one reason. */
    private static Given[] one(int[] good, int reason, int... bad) {
        Given[] all = new Given[good.length + bad.length];
        for (int i = 0; i < good.length; i++) all[i] = new Given(GOOD, good[i]);
        for (int i = 0; i < bad.length; i++) all[good.length + i] = new Given(reason, bad[i]);
        return all;
    }

    private static int[] are(int... values) {
        return values;
    }

    private static Given[] loud() {
        return one(are(1, 99), OUTSIDE, 0, 100, -1, LEAST, MOST);
    }

    private static Given[] hour() {
        return one(are(0, 23), OUTSIDE, -1, 24, LEAST, MOST);
    }

    private static Given[] whatUpTo(int most) {
        return one(are(0, most), OUTSIDE, -1, most + 1, LEAST, MOST);
    }

    private static Given[] anyPerson() {
        return one(are(0, 4), UNKNOWN, -1, 6, LEAST, MOST);
    }

    /** d, e and f are nowhere in the states that come of some(); d has cried and owes, e has done nothing. */
    private static Given[] personSomewhere() {
        return of(good(0), good(2), not(3), not(4), unknown(-1), unknown(6), unknown(LEAST), unknown(MOST));
    }

    private static Given[] anyCell() {
        return one(are(1, 0), UNKNOWN, -1, 12, LEAST, MOST);
    }

    private static Given[] cellOfFloor() {
        return of(good(1), good(10), not(0), not(11), unknown(-1), unknown(12), unknown(LEAST), unknown(MOST));
    }

    private static Given[] twoPersons() {
        return of(good(0, 1), good(5, 4), outside(0, 0), outside(5, 5), unknown(6, 0), unknown(0, 6), unknown(-1, -1),
            unknown(6, 6), unknown(0, MOST), unknown(LEAST, 0));
    }

    /** The first of two reasons, in the order UNKNOWN, OUTSIDE, NOT, FULL. */
    private static int first(int one, int other) {
        if (one == GOOD) return other;
        return other == GOOD ? one : Math.max(one, other);
    }

    /** Tries every choice for each argument; stateReason is why the state alone refuses a good call. */
    private static void every(String name, int state, int stateReason, Call call, Given[]... choices) {
        int[] at = new int[choices.length];
        int refused = 0;
        while (true) {
            List<Integer> arguments = new ArrayList<>();
            int reason = stateReason;
            for (int i = 0; i < choices.length; i++) {
                Given given = choices[i][at[i]];
                reason = first(reason, given.reason());
                for (int value : given.values()) arguments.add(value);
            }
            int[] row = arguments.stream().mapToInt(Integer::intValue).toArray();
            if (reason != GOOD) {
                refused++;
                refuse(name + arguments, state, reason, call, row);
            } else {
                check.holds(name + arguments + " is not refused", call.on(made(state), row) >= -1);
            }
            int i = choices.length - 1;
            while (i >= 0 && ++at[i] == choices[i].length) at[i--] = 0;
            if (i < 0) break;
        }
        check.holds(name + " is refused at least once", refused > 0);
    }

    private static void refuse(String told, int state, int reason, Call call, int[] row) {
        EchoFines x = made(state);
        check.due(told, call.on(x, row), reason);
        check.due(told + " again", call.on(x, row), reason);
        check.holds(told + ": nothing changes", seenOf(x).equals(seenUntouched(state)));
    }

    // ---- the calls

    private static void write() {
        check.of(2, "OUTSIDE; FULL.");
        Call call = (x, a) -> x.write(0x6666666666666666L, a[0]);
        every("write, bytes ", SOME, GOOD, call, one(are(1, 8), OUTSIDE, 0, -1, 9, LEAST, MOST));
        every("write at 200, bytes ", BYTES_200, FULL, call, one(are(1, 2, 7, 8), OUTSIDE, 0, -1, 9, LEAST, MOST));
        every("write at 193, bytes ", BYTES_193, GOOD, call, one(are(1, 7), FULL, 8));
        every("write at 193, bytes ", BYTES_193, GOOD, call, one(are(1, 7), OUTSIDE, 0, 9));
    }

    private static void canyon() {
        check.of(5, "NOT: it has a FAULT.");
        every("canyon ", FAULT, NOT, (x, a) -> x.canyon());
        every("canyon of no text ", NOTHING_KEPT, NOT, (x, a) -> x.canyon());
    }

    private static void cellPersonLaw() {
        check.of(6, "UNKNOWN; OUTSIDE.");
        every("cell ", SOME, GOOD, (x, a) -> x.cell(a[0], a[1]), anyCell(), whatUpTo(2));
        check.of(7, "UNKNOWN; OUTSIDE.");
        every("person ", SOME, GOOD, (x, a) -> x.person(a[0], a[1]), anyPerson(), whatUpTo(2));
        check.of(8, "OUTSIDE: law below 0, what.");
        every("law ", SOME, GOOD, (x, a) -> x.law(a[0], a[1]), one(are(0, 2, 6, MOST), OUTSIDE, -1, LEAST), whatUpTo(2));
    }

    private static void cryAndCosts() {
        check.of(9, "UNKNOWN; OUTSIDE; NOT; FULL.");
        Call cry = (x, a) -> x.cry(a[0], a[1], false, a[2]);
        every("cry ", SOME, GOOD, cry, personSomewhere(), loud(), hour());
        every("cry behind twenty ", CRIES, FULL, cry, personSomewhere(), loud(), hour());
        check.of(9, RULE);
        every("high cry behind twenty ", CRIES, FULL, (x, a) -> x.cry(a[0], a[1], true, a[2]), personSomewhere(), loud(), hour());
        check.of(10, "UNKNOWN; OUTSIDE; NOT.");
        Call costs = (x, a) -> x.costs(a[0], a[1], true, a[2]);
        every("costs ", SOME, GOOD, costs, personSomewhere(), loud(), hour());
        every("costs behind twenty ", CRIES, GOOD, costs, personSomewhere(), loud(), hour());
    }

    private static void soundsLedWhisper() {
        check.of(11, "UNKNOWN; OUTSIDE; NOT: one is ROCK.");
        every("sounds ", SOME, GOOD, (x, a) -> x.sounds(a[0], a[2], false, a[1], a[3]), cellOfFloor(), cellOfFloor(), loud(),
            whatUpTo(3));
        check.of(12, "UNKNOWN; OUTSIDE: LOUD, i below 0, what; NOT.");
        every("led ", SOME, GOOD, (x, a) -> x.led(a[0], a[1], true, a[2], a[3]), cellOfFloor(), loud(),
            one(are(0, 9, MOST), OUTSIDE, -1, LEAST), whatUpTo(4));
        check.of(13, "UNKNOWN; OUTSIDE; NOT.");
        every("whisper ", SOME, GOOD, (x, a) -> x.whisper(a[0], a[1], false), cellOfFloor(), loud());
    }

    private static void owedAndPay() {
        check.of(14, "UNKNOWN; OUTSIDE: one and itself.");
        every("owed ", SOME, GOOD, (x, a) -> x.owed(a[0], a[1]), twoPersons());
        check.of(15, "UNKNOWN; OUTSIDE: one and itself, n; NOT: it owes less.");
        EchoFines x = some();
        int debt = x.owed(2, 0) - 100000000;
        check.holds("c owes a something: " + debt, debt > 0 && debt < 9999);
        Call pay = (y, a) -> y.pay(a[0], a[1], a[2]);
        every("pay ", SOME, GOOD, pay,
            of(good(2, 0), outside(2, 2), unknown(2, 6), unknown(-1, 0), unknown(6, 6), not(0, 2), not(4, 5), not(2, 5)),
            of(good(1), good(debt), not(debt + 1), not(9999), outside(0), outside(-1), outside(10000), outside(LEAST),
                outside(MOST)));
    }

    private static void standFallChanged() {
        check.of(17, "UNKNOWN; OUTSIDE; NOT.");
        every("stand ", SOME, GOOD, (x, a) -> x.stand(a[0], a[1], false, a[2], a[3]), personSomewhere(), loud(), hour(),
            whatUpTo(1));
        check.of(18, "UNKNOWN.");
        every("fall ", SOME, GOOD, (x, a) -> x.fall(a[0]), one(are(0, 1, 11), UNKNOWN, -1, 12, 35, LEAST, MOST));
        check.of(19, "UNKNOWN; OUTSIDE: LOUD, one CELL; NOT: it is cried at ROCK.");
        // 0 and 11 are rock: as the cell that changes they are good, as the one where it is cried not
        every("changed ", SOME, GOOD, (x, a) -> x.changed(a[0], a[1], a[2], false),
            of(good(0, 1), good(5, 10), outside(1, 1), outside(0, 0), not(1, 0), not(0, 11), unknown(12, 1), unknown(1, 12),
                unknown(12, 12), unknown(-1, 0), unknown(0, -1), unknown(LEAST, MOST)), loud());
    }

    private static void noteAndWho() {
        check.of(20, "UNKNOWN; OUTSIDE; FULL.");
        Call note = (x, a) -> x.note(a[0], a[1]);
        Given[] minute = one(are(0, 99), OUTSIDE, -1, 100, LEAST, MOST);
        every("note ", SOME, GOOD, note, anyPerson(), minute);
        every("note behind twelve ", NOTES, FULL, note, anyPerson(), minute);
        check.of(22, "UNKNOWN; OUTSIDE; NOT: it is nowhere; nobody fits (of parts 0, 1).");
        Call who = (x, a) -> x.who(a[0], a[1], false, a[2]);
        every("who, its minutes ", SOME, GOOD, who, personSomewhere(), loud(), one(are(2), OUTSIDE, -1, 3, LEAST, MOST));
        every("who, where nobody fits ", NOBODY, GOOD, who, personSomewhere(), loud(),
            of(good(2), not(0), not(1), outside(-1), outside(3)));
    }

    private static void livingAndCancel() {
        check.of(23, "OUTSIDE.");
        every("living ", SOME, GOOD, (x, a) -> x.living(a[0]), whatUpTo(1));
        check.of(24, "UNKNOWN; OUTSIDE: one and itself, HOUR, what; NOT.");
        every("cancel ", SOME, GOOD, (x, a) -> x.cancel(a[0], a[1], false, a[2], a[3]),
            of(good(0, 1), good(2, 0), not(4, 0), not(0, 4), not(4, 5), outside(0, 0), outside(4, 4), unknown(6, 0),
                unknown(0, 6), unknown(4, -1), unknown(6, 6), unknown(LEAST, MOST)), hour(), whatUpTo(2));
    }

    private static void keepBackCount() {
        Given[] k = one(are(0, 1), UNKNOWN, -1, 2, LEAST, MOST);
        check.of(25, "UNKNOWN: no such k.");
        every("keep ", SOME, GOOD, (x, a) -> x.keep(a[0]), k);
        check.of(26, "UNKNOWN; NOT: nothing was kept since the last text.");
        every("back ", SOME, GOOD, (x, a) -> x.back(a[0]), k);
        every("back of nothing ", NOTHING_KEPT, NOT, (x, a) -> x.back(a[0]), k);
        check.of(27, "OUTSIDE.");
        every("count ", SOME, GOOD, (x, a) -> x.count(a[0]), whatUpTo(10));
    }
}
