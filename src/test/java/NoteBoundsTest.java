/** Promises 20 to 27: the bounds of notes, odds, living, cancelling, images and counts, sentence by sentence. */
public final class NoteBoundsTest {
    private static final int NONE = -1, UNKNOWN = -2, OUTSIDE = -3, NOT = -4, FULL = -5;
    private static final int LIFT = 100000000;
    /** No rocks: b hears a one tick behind its cry and c two. */
    private static final String OPEN = "plan 6 1;at a 0 0;at b 1 0;at c 3 0";
    /** b hears a in ticks 3, 4, 7, 8, .. 59, 60 and c in ticks 1, 2, 5, 6, .. 57, 58. */
    private static final String PAIR = "plan 4 1;rock 0 0 0;rock 3 0 0;fade 0;at a 1 0;at b 1 0;at c 2 0";
    /** A cry of a, l loud, comes back to 2 in tick 5, l - 4 loud, to 1 and to 0 each a tick later and 1 less. */
    private static final String WALL = "plan 5 1;rock 4 0 0;at a 0 0;at b 2 0";
    private static final Check check = new Check();

    public static void main(String[] args) {
        twelveNotes();
        note();
        forget();
        whoOfAllPersons();
        whoInWhichMinutes();
        whoByEachNote();
        whoByTicks();
        odds();
        lowestTerms();
        nobodyFits();
        living();
        livingLeastOfSeveral();
        livingAsItIsNow();
        livingNoFloor();
        cancelLeast();
        cancelUpTo40();
        cancelNotNothing();
        cancel();
        keep();
        keepWhatEachOwes();
        keepCries();
        keepNotes();
        back();
        backOfNothing();
        count();
        countOutside();
        check.end();
    }

    // ---- notes

    private static void twelveNotes() {
        check.of(20, "NOTES are 12 at most: a PERSON heard something in a MINUTE (0 .. 99).");
        EchoFines x = new EchoFines();
        int[] minutes = {0, 99, 0, 99, 50, 1, 98, 2, 97, 3, 96, 0};
        for (int i = 0; i < 12; i++) check.due("note " + i, x.note(i % 6, minutes[i]), i + 1);
        check.due("the thirteenth", x.note(0, 0), FULL);
        check.due("notes", x.count(6), 12);
        check.due("minute -1 ahead of full", x.note(0, -1), OUTSIDE);
        check.due("minute 100 ahead of full", x.note(0, 100), OUTSIDE);
        check.due("forget()", x.forget(), 12);
        check.due("there is room again", x.note(5, 99), 1);
        check.due("minute -1", x.note(5, -1), OUTSIDE);
        check.due("minute 100", x.note(5, 100), OUTSIDE);
        check.due("still one", x.count(6), 1);
    }

    private static void note() {
        check.of(20, "A NOTE: how many there are.");
        EchoFines x = Check.told(OPEN);
        check.due("the first", x.note(1, 50), 1);
        check.due("the same again", x.note(1, 50), 2);
        check.due("of one that is nowhere", x.note(5, 50), 3);
        check.due("counted", x.count(6), 3);
        // the twelfth counts as the first does
        EchoFines y = Check.told(OPEN);
        for (int i = 0; i < 11; i++) y.note(1, 50);
        check.due("eleven that a fits", y.who(0, 9, false, 2), 1);
        y.note(1, 51);
        check.due("the twelfth does not", y.who(0, 9, false, 2), 0);
    }

    private static void forget() {
        check.of(21, "NOTES are none: how many there were.");
        EchoFines x = Check.told(OPEN);
        check.due("none", x.forget(), 0);
        x.note(1, 50);
        x.note(2, 60);
        check.due("two", x.forget(), 2);
        check.due("notes", x.count(6), 0);
        check.due("none any more", x.forget(), 0);
        check.due("all minutes fit again", x.who(0, 9, false, 2), 100);
        check.due("cries are not forgotten", x.cry(0, 9, false, 0) + x.forget() + x.count(5), 1);
    }

    // ---- who

    private static void whoOfAllPersons() {
        check.of(22, "WHO: of all PERSONS that are somewhere and MINUTES 0 .. 99 in which one may have cried "
            + "(LOUD, HIGH as told)");
        String[] more = {"", ";at d 5 0", ";at d 5 0;at e 5 0", ";at d 5 0;at e 5 0;at f 5 0"};
        for (int i = 0; i < more.length; i++) {
            EchoFines x = Check.told(OPEN + more[i]);
            check.due("no note: below, of " + (3 + i), x.who(0, 1, true, 1), 3 + i);
            check.due("no note: above", x.who(0, 1, true, 0), 1);
            check.due("no note: minutes 0 .. 99", x.who(0, 1, true, 2), 100);
        }
        check.due("alone: above", Check.told("at c 0 0").who(2, 99, false, 0), 1);
        check.due("alone: below", Check.told("at c 0 0").who(2, 99, false, 1), 1);
        // loud as told
        EchoFines y = Check.told(OPEN);
        y.note(1, 50);
        check.due("a, 1 loud", y.who(0, 1, false, 2), 0);
        check.due("a, 2 loud", y.who(0, 2, false, 2), 1);
        check.due("c, 2 loud", y.who(2, 2, false, 2), 0);
        check.due("c, 3 loud", y.who(2, 3, false, 2), 1);
        check.due("a, 99 loud", y.who(0, 99, false, 2), 1);
        // high as told: of a high cry nothing is thrown back by rock as soft as that
        EchoFines z = Check.told("plan 4 1;rock 3 0 50;fade 0;at a 0 0;at b 0 0");
        z.note(1, 50);
        check.due("low", z.who(0, 9, false, 2), 1);
        check.due("high", z.who(0, 9, true, 2), 0);
    }

    private static void whoInWhichMinutes() {
        check.of(22, "MINUTES 0 .. 99 in which one may have cried");
        // minute of the note, minutes that fit for a (one tick behind) and for c (two)
        int[][] rows = {{0, 0, 0}, {1, 1, 0}, {2, 1, 1}, {98, 1, 1}, {99, 1, 1}};
        for (int[] row : rows) {
            EchoFines x = Check.told(OPEN);
            x.note(1, row[0]);
            check.due("note in minute " + row[0] + ", a", x.who(0, 9, false, 2), row[1]);
            check.due("note in minute " + row[0] + ", c", x.who(2, 9, false, 2), row[2]);
        }
    }

    private static void whoByEachNote() {
        check.of(22, "those by which each NOTE is of another PERSON");
        EchoFines x = Check.told(OPEN);
        x.note(1, 50);
        check.due("b by its own note", x.who(1, 9, false, 2), 0);
        check.due("a", x.who(0, 9, false, 2), 1);
        x.note(2, 52);
        check.due("a by both notes", x.who(0, 9, false, 2), 1);
        check.due("c by its own note", x.who(2, 9, false, 2), 0);
        x.note(0, 51);
        check.due("a by its own note", x.who(0, 9, false, 2), 0);
        // a note of one that is nowhere fits nobody
        EchoFines y = Check.told(OPEN);
        y.note(3, 50);
        for (int person = 0; person < 3; person++) check.due("heard nowhere", y.who(person, 9, false, 2), 0);
        // one's own note does not fit, though a sound comes back to it
        EchoFines z = Check.told(PAIR);
        z.note(0, 50);
        check.due("a comes back to a", z.sounds(1, 9, false, 1, 0), 30);
        check.due("a by its own note", z.who(0, 9, false, 2), 0);
    }

    private static void whoByTicks() {
        check.of(22, "to whom a SOUND comes so many TICKS behind it as MINUTES:");
        EchoFines x = Check.told(OPEN);
        x.note(1, 50);
        x.note(2, 52);
        check.due("ticks 1 and 3 of a, in minute 49", x.who(0, 9, false, 2), 1);
        x.note(2, 51);
        check.due("none in tick 2", x.who(0, 9, false, 2), 0);
        // not in the minute of the cry itself: b beside a hears it no sooner than in tick 3
        for (int minute = 0; minute <= 10; minute++) {
            EchoFines y = Check.told(PAIR);
            y.note(1, minute);
            int[] ofA = {0, 0, 0, 1, 2, 2, 2, 3, 4, 4, 4};
            int[] ofC = {0, 1, 2, 2, 2, 3, 4, 4, 4, 5, 6};
            check.due("minute " + minute + ", a", y.who(0, 9, false, 2), ofA[minute]);
            check.due("minute " + minute + ", c", y.who(2, 9, false, 2), ofC[minute]);
        }
        EchoFines late = Check.told(PAIR);
        late.note(1, 99);
        check.due("minute 99: thirty ticks, none behind the sixtieth", late.who(0, 9, false, 2), 30);
        check.due("minute 99, c", late.who(2, 9, false, 2), 30);
    }

    /** Rows of the minute of b's note, a's odds above and below, and c's. */
    private static void oddsByNoteOfB(int[][] rows) {
        for (int[] row : rows) {
            EchoFines x = Check.told(PAIR);
            x.note(1, row[0]);
            check.due("a, above, by minute " + row[0], x.who(0, 9, false, 0), row[1]);
            check.due("a, below, by minute " + row[0], x.who(0, 9, false, 1), row[2]);
            check.due("c, above, by minute " + row[0], x.who(2, 9, false, 0), row[3]);
            check.due("c, below, by minute " + row[0], x.who(2, 9, false, 1), row[4]);
            check.due("b, above", x.who(1, 9, false, 0), 0);
            check.due("b, below: nothing of anything is 0 of 1", x.who(1, 9, false, 1), 1);
        }
    }

    private static void odds() {
        check.of(22, "the odds that it was one, all such by like odds.");
        oddsByNoteOfB(new int[][] {{1, 0, 1, 1, 1}, {3, 1, 3, 2, 3}, {5, 2, 5, 3, 5}, {7, 3, 7, 4, 7}});
        check.of(22, "WHO: the odds of a PERSON (part 0 above, 1 below), how many MINUTES fit for it (part 2).");
        EchoFines x = Check.told(PAIR);
        x.note(1, 10);
        int[] parts = {2, 5, 4};
        for (int part = 0; part < 3; part++) check.due("part " + part, x.who(0, 9, false, part), parts[part]);
    }

    private static void lowestTerms() {
        check.of(22, "Parts are told in lowest terms: above (part 0), below (1).");
        // by minutes 8, 10 and 99: 4 of 8, 4 of 10, 30 of 60
        oddsByNoteOfB(new int[][] {{2, 0, 1, 1, 1}, {8, 1, 2, 1, 2}, {10, 2, 5, 3, 5}, {99, 1, 2, 1, 2}});
    }

    private static void nobodyFits() {
        check.of(22, "NOT: it is nowhere; nobody fits (of parts 0, 1).");
        EchoFines x = Check.told(OPEN);
        for (int part = 0; part < 3; part++) check.due("nowhere, part " + part, x.who(5, 9, false, part), NOT);
        x.note(1, 0);
        check.due("nobody, above", x.who(0, 9, false, 0), NOT);
        check.due("nobody, below", x.who(0, 9, false, 1), NOT);
        check.due("nobody, minutes", x.who(0, 9, false, 2), 0);
        x.forget();
        x.note(1, 1);
        check.due("a fits, so b has odds", x.who(1, 9, false, 0), 0);
        check.due("below", x.who(1, 9, false, 1), 1);
        x.fall(0);
        check.due("a is nowhere now", x.who(0, 9, false, 2), NOT);
        check.due("and nobody fits", x.who(1, 9, false, 0), NOT);
    }

    // ---- living

    private static void living() {
        check.of(23, "LIVING: the CELL (what 0; NONE: no FLOOR), how much (1; NONE).");
        EchoFines x = Check.told(WALL + ";law 16 0 5;night 3 4 9");
        check.due("no cries, where", x.living(0), 0);
        check.due("no cries, how much", x.living(1), 0);
        check.due("a cries", x.cry(0, 20, false, 0), 5);
        check.due("16 loud at 2 alone", x.living(0), 2);
        check.due("how much", x.living(1), 5);
        check.due("a cries louder", x.cry(0, 21, false, 3), 45);
        check.due("16 loud at 1 as well, but one more at 2", x.living(0), 2);
        check.due("by night nine times", x.living(1), 50);
        check.due("living owes nobody anything", x.owed(0, 1), LIFT + 50);
        check.due("nor is it a cry", x.count(5), 2);
    }

    private static void livingLeastOfSeveral() {
        check.of(23, "LIVING: the CELL of FLOOR (the least of several) to which most would be owed by all CRIES made, "
            + "if one more window were there");
        EchoFines same = Check.told(WALL + ";law 1 0 5");
        same.cry(0, 20, false, 0);
        check.due("5 at 0, 1 and 2", same.living(0), 0);
        check.due("5 for a window beside the crier too", same.living(1), 5);
        EchoFines late = Check.told(WALL + ";law 1 7 9;law 1 6 3");
        late.cry(0, 20, false, 0);
        check.due("in tick 7 at 0", late.living(0), 0);
        check.due("9", late.living(1), 9);
        EchoFines middle = Check.told(WALL + ";law 1 7 1;law 1 6 3;law 1 5 3");
        middle.cry(0, 20, false, 0);
        check.due("3 at 1 and 2", middle.living(0), 1);
        // not what the people get in all, and not less where one is
        EchoFines many = Check.told(WALL + ";at c 2 0;at d 2 0;law 1 0 5");
        check.due("three hear it", many.cry(0, 20, false, 0), 15);
        check.due("but one more window gets 5", many.living(1), 5);
        EchoFines rock = Check.told("plan 3 1;rock 0 0 0;at a 1 0");
        check.due("no cries: the least floor", rock.living(0), 1);
        // all cries of all, high ones as high ones
        EchoFines soft = Check.told("plan 5 1;rock 4 0 50;at a 0 0;at b 2 0;law 1 0 5");
        soft.cry(0, 20, true, 0);
        check.due("a high cry that nobody hears", soft.living(1), 0);
        soft.cry(0, 20, false, 0);
        soft.cry(1, 20, false, 0);
        check.due("two low ones", soft.living(1), 10);
    }

    private static void livingAsItIsNow() {
        check.of(23, "(by LAWS, CELLS and windows as they are now).");
        EchoFines x = Check.told(WALL + ";law 1 0 5");
        check.due("a cries", x.cry(0, 20, false, 0), 5);
        check.due("b cries, too low", x.cry(1, 2, false, 0), 0);
        check.due("a's alone", x.living(1), 5);
        check.due("fall(4)", x.fall(4), 0);
        check.due("without the rock", x.living(1), 0);
        // a's comes back to 1 and 0; b is right before the rock now, and its cry comes back to 1
        check.due("fall(3)", x.fall(3), 1);
        check.due("a rock nearer, where", x.living(0), 1);
        check.due("a rock nearer", x.living(1), 10);
        check.due("fall(0)", x.fall(0), 1);
        check.due("a is nowhere: its cry comes to nothing, where", x.living(0), 1);
        check.due("a is nowhere: its cry comes to nothing", x.living(1), 5);
        check.due("fall(2)", x.fall(2), 1);
        check.due("nobody is anywhere", x.living(1), 0);
        check.due("the least floor", x.living(0), 1);
        check.due("what is owed stays", x.owed(0, 1), LIFT + 5);
        // the canyon is as it was, but who cried is nowhere
        EchoFines y = Check.told("plan 5 1;rock 4 0 0;at a 1 0;law 1 0 5");
        y.cry(0, 20, false, 0);
        check.due("a cries", y.living(1), 5);
        y.fall(1);
        y.fall(1);
        check.due("no rock at 1", y.cell(1, 0), 0);
        check.due("a cries from nowhere", y.living(1), 0);
    }

    private static void livingNoFloor() {
        check.of(23, "NONE: no FLOOR), how much (1; NONE).");
        EchoFines x = Check.told("plan 2 1;at a 0 0;law 1 0 5");
        x.cry(0, 9, false, 0);
        x.fall(0);
        check.due("one floor is left", x.living(0), 1);
        check.due("nothing there", x.living(1), 0);
        x.fall(1);
        check.due("no floor, where", x.living(0), NONE);
        check.due("no floor, how much", x.living(1), NONE);
        x.fall(0);
        check.due("floor again", x.living(0), 0);
    }

    // ---- cancel

    private static void cancelLeast() {
        check.of(24, "CANCEL of two: the least LOUD a (1 .. 40) of the one, then b (1 .. 40) of the other,");
        // # . a b #: a owes 1 by 4 and 5, 2 by 6 and more; b owes 2 by 2 and 3, never 1
        EchoFines x = Check.told("plan 5 1;rock 4 0 0;rock 0 0 0;at a 2 0;at b 3 0;fade 1;law 1 3 1;law 1 0 2");
        check.due("a owes 1", x.costs(0, 4, false, 0), 1);
        check.due("a owes 2", x.costs(0, 6, false, 0), 2);
        check.due("b owes 2", x.costs(1, 2, false, 0), 2);
        int[] ab = {6, 2, 2};
        int[] ba = {2, 6, 2};
        for (int what = 0; what < 3; what++) {
            check.due("one a, other b, what " + what, x.cancel(0, 1, false, 0, what), ab[what]);
            check.due("one b, other a, what " + what, x.cancel(1, 0, false, 0, what), ba[what]);
        }
        // # . b a . #, the left one softer: a owes 4 by 4; b owes 2 by 4, 4 by 5 and more
        EchoFines y = Check.told("plan 6 1;rock 5 0 0;rock 0 0 37;at a 3 0;at b 2 0;fade 1;law 1 0 2");
        int[] soft = {4, 5, 4};
        for (int what = 0; what < 3; what++) check.due("softer, what " + what, y.cancel(0, 1, false, 0, what), soft[what]);
    }

    private static void cancelUpTo40() {
        check.of(24, "the least LOUD a (1 .. 40) of the one, then b (1 .. 40) of the other,");
        String walls = "plan 4 1;rock 0 0 0;rock 3 0 0;at a 1 0;at b 2 0;fade 0;";
        for (int loud : new int[] {1, 2, 39, 40}) {
            EchoFines x = Check.told(walls + "law " + loud + " 0 5");
            check.due("a, law " + loud, x.cancel(0, 1, false, 0, 0), loud);
            check.due("b, law " + loud, x.cancel(0, 1, false, 0, 1), loud);
        }
        for (int what = 0; what < 3; what++) {
            check.due("law 41", Check.told(walls + "law 41 0 5").cancel(0, 1, false, 0, what), NONE);
            check.due("law 99", Check.told(walls + "law 99 0 5").cancel(0, 1, false, 0, what), NONE);
        }
        // # a b #, the right one softer: a must be 1 louder than the law, b so loud that half of it is
        EchoFines just = Check.told("plan 4 1;rock 0 0 0;rock 3 0 52;at a 1 0;at b 2 0;fade 1;law 19 0 5");
        int[] ab = {20, 40, 5};
        int[] ba = {40, 20, 5};
        EchoFines beyond = Check.told("plan 4 1;rock 0 0 0;rock 3 0 50;at a 1 0;at b 2 0;fade 1;law 20 0 5");
        check.due("by 41 b would owe something", beyond.costs(1, 41, false, 0), 5);
        for (int what = 0; what < 3; what++) {
            check.due("the other is 40, what " + what, just.cancel(0, 1, false, 0, what), ab[what]);
            check.due("the one is 40, what " + what, just.cancel(1, 0, false, 0, what), ba[what]);
            check.due("the other would be 41, what " + what, beyond.cancel(0, 1, false, 0, what), NONE);
            check.due("the one would be 41, what " + what, beyond.cancel(1, 0, false, 0, what), NONE);
        }
    }

    private static void cancelNotNothing() {
        check.of(24, "by which what the one would owe the other is as much as that one would owe it, and not nothing.");
        EchoFines no = Check.told("plan 4 1;at a 1 0;at b 2 0;law 1 0 5");
        check.due("both would owe nothing", no.cancel(0, 1, false, 0, 0), NONE);
        EchoFines free = Check.told("plan 4 1;rock 0 0 0;rock 3 0 0;at a 1 0;at b 2 0");
        check.due("no law", free.cancel(0, 1, false, 0, 0), NONE);
        // what others would be owed does not count
        EchoFines third = Check.told("plan 4 1;rock 0 0 0;rock 3 0 0;at a 1 0;at b 2 0;at c 2 0;law 1 0 5");
        check.due("a beside a third", third.cancel(0, 1, false, 0, 0), 2);
        check.due("b beside a third", third.cancel(0, 1, false, 0, 1), 2);
        check.due("how much of it", third.cancel(0, 1, false, 0, 2), 5);
        // by 3 it comes back to their own window twice, from the left and from the right
        check.due("at one window", third.cancel(1, 2, false, 0, 0), 3);
        check.due("at one window, how much", third.cancel(1, 2, false, 0, 2), 10);
    }

    private static void cancel() {
        check.of(24, "CANCEL: a (what 0), b (1), how much (2); NONE: there are none.");
        EchoFines x = Check.told("plan 4 1;rock 0 0 0;rock 3 0 50;at a 1 0;at b 2 0;law 1 0 5;night 23 1 9");
        int[] low = {2, 3, 5};
        for (int what = 0; what < 3; what++) {
            check.due("low, what " + what, x.cancel(0, 1, false, 12, what), low[what]);
            check.due("high, what " + what, x.cancel(0, 1, true, 12, what), NONE);
        }
        check.due("hour 0", x.cancel(0, 1, false, 0, 2), 45);
        check.due("hour 23", x.cancel(0, 1, false, 23, 2), 45);
        check.due("hour 1", x.cancel(0, 1, false, 1, 2), 5);
        check.due("nothing is cried", x.count(5), 0);
        check.due("nothing is owed", x.owed(0, 1), LIFT);
    }

    // ---- images

    /** As WALL, and a rock that is soft below it, by which no cry goes. */
    private static EchoFines withSoftRock() {
        return Check.told("plan 5 2;rock 4 0 0;at a 0 0;at b 2 0;rock 4 1 30;law 1 0 5");
    }

    private static void keep() {
        check.of(25, "CELLS, PERSONS, what is owed, CRIES, NOTES are kept (k 0, 1): how many CRIES.");
        for (int k = 0; k <= 1; k++) {
            EchoFines x = withSoftRock();
            check.due("keep of no cries", x.keep(1 - k), 0);
            check.due("cry", x.cry(0, 20, false, 0), 5);
            check.due("note", x.note(1, 7), 1);
            check.due("keep(" + k + ")", x.keep(k), 1);
            // all of it changes
            check.due("cry", x.cry(1, 20, false, 0), 5);
            check.due("cry", x.cry(1, 20, true, 5), 5);
            check.due("pay", x.pay(1, 0, 3), LIFT + 2);
            check.due("note", x.note(0, 50), 2);
            check.due("fall(4)", x.fall(4), 0);
            check.due("fall(0)", x.fall(0), 1);
            check.due("fall(9)", x.fall(9), 0);
            check.due("back(" + k + ")", x.back(k), 1);
            lookAtKept(x);
            check.due("back(" + (1 - k) + ")", x.back(1 - k), 0);
            check.due("nothing owed then", x.owed(0, 1), LIFT);
            check.due("no notes then", x.count(6), 0);
            check.due("and back again", x.back(k), 1);
            lookAtKept(x);
        }
        check.of(25, "UNKNOWN: no such k.");
        for (int k : new int[] {-1, 2, Integer.MIN_VALUE, Integer.MAX_VALUE}) {
            check.due("keep(" + k + ")", withSoftRock().keep(k), UNKNOWN);
        }
    }

    private static void lookAtKept(EchoFines x) {
        check.due("rock", x.cell(4, 0), 1);
        check.due("soft rock", x.cell(9, 1), 30);
        check.due("floor", x.cell(0, 0), 0);
        check.due("a", x.person(0, 0), 0);
        check.due("b", x.person(1, 0), 2);
        check.due("somewhere", x.count(3), 3);
        check.due("owed", x.owed(0, 1), LIFT + 5);
        check.due("cries", x.count(5), 1);
        check.due("cries of a", x.person(0, 2), 1);
        check.due("cries of b", x.person(1, 2), 0);
        check.due("living", x.living(1), 5);
        check.due("notes", x.count(6), 1);
        // b's note in minute 7 fits a by ticks 2 and 5
        check.due("the note as it was", x.who(0, 20, false, 2), 2);
    }

    private static void keepWhatEachOwes() {
        check.of(25, "what is owed,");
        EchoFines x = Check.told("plan 3 1;rock 2 0 0;fade 0;law 1 0 99;at a 0 0;at b 0 0;at c 0 0;at d 0 0;at e 0 0;at f 0 0");
        x.keep(0);
        // the first cries five times, the next four times: one owes another 99 for each cry more
        for (int person = 0; person < 5; person++) {
            for (int i = person; i < 5; i++) check.due("cry", x.cry(person, 9, false, 0), 5 * 99);
        }
        for (int one = 0; one < 6; one++) {
            for (int other = one + 1; other < 6; other++) x.pay(one, other, 6 * one + other);
        }
        check.due("keep(1)", x.keep(1), 15);
        check.due("back(0)", x.back(0), 0);
        for (int one = 0; one < 6; one++) {
            for (int other = 0; other < 6; other++) {
                if (one != other) check.due("nothing owed", x.owed(one, other), LIFT);
            }
        }
        check.due("back(1)", x.back(1), 15);
        for (int one = 0; one < 6; one++) {
            for (int other = one + 1; other < 6; other++) {
                int debt = 99 * (other - one) - 6 * one - other;
                check.due("owed " + one + " " + other, x.owed(one, other), LIFT + debt);
                check.due("owed " + other + " " + one, x.owed(other, one), LIFT - debt);
            }
        }
    }

    /** Twenty cries of one kind under 1, twenty of another under 0; what they come to and whose they are. */
    private static void keptCries(int[] kind, int[] other, int much, int otherMuch) {
        EchoFines x = Check.told("plan 5 1;rock 4 0 50;at a 0 0;at b 0 0;law 1 0 5;night 3 4 9");
        x.keep(0);
        for (int i = 0; i < 20; i++) x.cry(kind[0], kind[1], kind[2] == 1, kind[3]);
        check.due("keep(1)", x.keep(1), 20);
        check.due("back(0)", x.back(0), 0);
        for (int i = 0; i < 20; i++) x.cry(other[0], other[1], other[2] == 1, other[3]);
        check.due("keep(0)", x.keep(0), 20);
        for (int i = 0; i < 2; i++) {
            check.due("back(1)", x.back(1), 20);
            check.due("living", x.living(1), much);
            check.due("cries of the crier", x.person(kind[0], 2), 20);
            check.due("back(0)", x.back(0), 20);
            check.due("living by the others", x.living(1), otherMuch);
            check.due("cries of the other crier", x.person(other[0], 2), 20);
        }
    }

    private static void keepCries() {
        check.of(25, "CRIES, NOTES are kept");
        keptCries(new int[] {0, 20, 0, 0}, new int[] {1, 20, 0, 0}, 100, 100);
        keptCries(new int[] {0, 20, 0, 0}, new int[] {0, 3, 0, 0}, 100, 0);
        keptCries(new int[] {0, 20, 0, 0}, new int[] {0, 20, 1, 0}, 100, 0);
        keptCries(new int[] {0, 20, 0, 0}, new int[] {0, 20, 0, 3}, 100, 900);
        keptCries(new int[] {1, 3, 1, 3}, new int[] {0, 20, 0, 0}, 0, 100);
    }

    /** Twelve notes under 1, twelve others under 0; how many minutes fit for a by each. */
    private static void keptNotes(int[] note, int[] other, int fit, int otherFit) {
        EchoFines x = Check.told(OPEN);
        x.keep(0);
        for (int i = 0; i < 12; i++) x.note(note[0], note[1]);
        x.keep(1);
        x.back(0);
        for (int i = 0; i < 12; i++) x.note(other[0], other[1]);
        x.keep(0);
        for (int i = 0; i < 2; i++) {
            x.back(1);
            check.due("minutes that fit", x.who(0, 9, false, 2), fit);
            x.back(0);
            check.due("minutes that fit by the others", x.who(0, 9, false, 2), otherFit);
        }
    }

    private static void keepNotes() {
        check.of(25, "NOTES are kept");
        keptNotes(new int[] {1, 50}, new int[] {1, 0}, 1, 0);
        keptNotes(new int[] {1, 50}, new int[] {0, 50}, 1, 0);
        keptNotes(new int[] {1, 0}, new int[] {2, 3}, 0, 1);
    }

    private static void back() {
        check.of(26, "It is as it was kept: how many CRIES.");
        EchoFines x = withSoftRock();
        for (int i = 0; i < 20; i++) x.cry(0, 20, false, i);
        for (int i = 0; i < 12; i++) x.note(1, i);
        check.due("keep(0) of all that there may be", x.keep(0), 20);
        check.due("forget()", x.forget(), 12);
        check.due("pay", x.pay(0, 1, 100), LIFT);
        check.due("back(0)", x.back(0), 20);
        check.due("owed", x.owed(0, 1), LIFT + 100);
        check.due("cries", x.count(5), 20);
        check.due("cry 21", x.cry(0, 20, false, 0), FULL);
        check.due("notes", x.count(6), 12);
        check.due("note 13", x.note(0, 0), FULL);
        check.due("living", x.living(1), 100);
        // kept again under the same k, the older is no more
        check.due("forget()", x.forget(), 12);
        check.due("keep(0)", x.keep(0), 20);
        check.due("back(0)", x.back(0), 20);
        check.due("no notes", x.count(6), 0);
        // what is done behind it does not change what was kept, and the text stays as it is
        check.due("note", x.note(3, 3), 1);
        Check.write(x, "fade 9");
        check.due("back(0)", x.back(0), 20);
        check.due("no notes again", x.count(6), 0);
        check.due("the text stays", x.count(8), 6);
        check.due("laws stay", x.count(4), 1);
    }

    private static void backOfNothing() {
        check.of(26, "UNKNOWN; NOT: nothing was kept since the last text.");
        EchoFines x = withSoftRock();
        for (int k : new int[] {-1, 2, Integer.MIN_VALUE, Integer.MAX_VALUE}) check.due("back(" + k + ")", x.back(k), UNKNOWN);
        check.due("back(0)", x.back(0), NOT);
        check.due("back(1)", x.back(1), NOT);
        check.due("keep(1)", x.keep(1), 0);
        check.due("back(0), of another k", x.back(0), NOT);
        check.due("back(1)", x.back(1), 0);
        check.due("keep(0)", x.keep(0), 0);
        check.due("no text is done: a fault", Check.tell(x, "fade"), NOT);
        check.due("back(0)", x.back(0), 0);
        check.due("erase()", x.erase(), 4);
        check.due("back(1)", x.back(1), 0);
        check.due("a text", Check.tell(x, "fade 1"), 1);
        check.due("back(0) since that", x.back(0), NOT);
        check.due("back(1) since that", x.back(1), NOT);
        check.due("keep(0) anew", x.keep(0), 0);
        check.due("back(0)", x.back(0), 0);
        check.due("back(1) still not", x.back(1), NOT);
    }

    // ---- counts

    private static void count() {
        check.of(27, "0 columns, 1 rows, 2 CELLS of ROCK, 3 PERSONS that are somewhere, by bits, 4 LAWS, 5 CRIES, 6 NOTES, "
            + "7 FADE, 8 bytes of THE TEXT, 9 HOURS of NIGHT, by bits, 10 how many times as much then.");
        int[] least = {1, 1, 0, 0, 0, 0, 0, 0, 0, 0, 1};
        EchoFines x = Check.told("plan 1 1;fade 0");
        for (int what = 0; what <= 10; what++) check.due("least, count(" + what + ")", x.count(what), least[what]);
        EchoFines y = Check.told("plan 6 6;fade 9;night 1 0 9;law 1 0 1;law 1 0 1;law 1 0 1;law 1 0 1;law 1 0 1;law 1 0 1",
            "at a 5 5;at b 5 5;at c 5 5;at d 5 5;at e 5 5;at f 5 5");
        for (int cell = 0; cell < 35; cell++) y.fall(cell);
        for (int i = 0; i < 20; i++) y.cry(i % 6, 99, false, 0);
        for (int i = 0; i < 12; i++) y.note(0, 0);
        Check.write(y, "x".repeat(200));
        int[] most = {6, 6, 35, 63, 6, 20, 12, 9, 200, (1 << 24) - 2, 9};
        for (int what = 0; what <= 10; what++) check.due("most, count(" + what + ")", y.count(what), most[what]);
        check.due("fall(35)", y.fall(35), 1);
        check.due("all rock", y.count(2), 36);
        check.due("nobody somewhere", y.count(3), 0);
    }

    private static void countOutside() {
        check.of(27, "OUTSIDE.");
        EchoFines x = new EchoFines();
        for (int what : new int[] {-1, 11, 12, 100, Integer.MIN_VALUE, Integer.MAX_VALUE}) {
            check.due("count(" + what + ")", x.count(what), OUTSIDE);
        }
    }
}
