/** Promises 17 to 19: the bounds of where to stand, of rocks that fall and of what changes, sentence by sentence. */
public final class PlaceBoundsTest {
    private static final int NONE = -1, UNKNOWN = -2, NOT = -4;
    private static final int LIFT = 100000000;
    /** A cry comes back to b in tick 5 from cell 0, 4 from 1, 3 from 2 and 2 from 3. */
    private static final String WALL = "plan 5 1;rock 4 0 0;at a 0 0;at b 2 0";
    private static final Check check = new Check();

    public static void main(String[] args) {
        leastOfSeveral();
        whereItCostsLeast();
        othersWindows();
        stand();
        fall();
        fallEverywhere();
        changedToRock();
        changedToFloor();
        changedByEachPart();
        changedEachAsOften();
        changedLeavesOut();
        changed();
        check.end();
    }

    private static void leastOfSeveral() {
        check.of(17, "STAND: the CELL of FLOOR (the least of several)");
        check.due("all cost nothing", Check.told(WALL).stand(0, 20, false, 0, 0), 0);
        check.due("all cost the same", Check.told(WALL + ";law 1 0 5").stand(0, 20, false, 0, 0), 0);
        check.due("not a rock", Check.told("plan 3 1;rock 0 0 0;rock 1 0 0;at a 2 0").stand(0, 20, false, 0, 0), 2);
        check.due("the only floor", Check.told("plan 1 1;at f 0 0;law 1 0 5").stand(5, 99, true, 23, 0), 0);
        // the last cell of all
        EchoFines x = Check.told("plan 6 6;at a 5 5;law 1 0 5");
        for (int cell = 0; cell < 35; cell++) x.fall(cell);
        check.due("the last cell", x.stand(0, 20, false, 0, 0), 35);
    }

    private static void whereItCostsLeast() {
        check.of(17, "where a CRY of a PERSON");
        check.due("costs 1 at 2 and 3", Check.told(WALL + ";law 1 4 5;law 1 0 1").stand(0, 20, false, 0, 0), 2);
        check.due("how much", Check.told(WALL + ";law 1 4 5;law 1 0 1").stand(0, 20, false, 0, 1), 1);
        check.due("costs nothing at 3", Check.told(WALL + ";law 1 3 5").stand(0, 20, false, 0, 0), 3);
        check.due("how much", Check.told(WALL + ";law 1 3 5").stand(0, 20, false, 0, 1), 0);
        // loud 4 comes back to b from 0 with nothing left
        check.due("too low at 0", Check.told(WALL + ";law 1 0 5").stand(0, 4, false, 0, 1), 0);
        check.due("loud enough everywhere", Check.told(WALL + ";law 1 0 5").stand(0, 5, false, 0, 1), 5);
        EchoFines soft = Check.told("plan 5 1;rock 4 0 50;at a 0 0;at b 2 0;law 1 0 5;night 3 4 9");
        check.due("low", soft.stand(0, 20, false, 0, 1), 5);
        check.due("high", soft.stand(0, 20, true, 0, 1), 0);
        check.due("by night", soft.stand(0, 20, false, 3, 1), 45);
        check.due("behind the night", soft.stand(0, 20, false, 4, 1), 5);
    }

    private static void othersWindows() {
        check.of(17, "(as if its window were there; to the others' windows) costs least.");
        // no echo comes to b at 3; a's own window at 0, to which they come, does not count
        EchoFines x = Check.told("plan 5 1;rock 4 0 0;at a 0 0;at b 3 0;law 1 0 5");
        check.due("where", x.stand(0, 20, false, 0, 0), 0);
        check.due("how much", x.stand(0, 20, false, 0, 1), 0);
        // b's window counts though a stands there too, and both of two others
        check.due("beside b", Check.told("plan 2 1;rock 0 0 0;at a 1 0;at b 1 0;law 1 0 5").stand(0, 9, false, 0, 1), 0);
        check.due("two others", Check.told(WALL + ";at c 2 0;law 1 0 5").stand(0, 20, false, 0, 1), 10);
        check.due("as b, to a", Check.told(WALL + ";law 1 0 5").stand(1, 20, false, 0, 1), 5);
        check.due("as b, at 0, too low", Check.told(WALL + ";law 1 0 5").stand(1, 6, false, 0, 0), 0);
        check.due("as b, louder", Check.told(WALL + ";law 1 0 5").stand(1, 7, false, 0, 1), 5);
    }

    private static void stand() {
        check.of(17, "STAND: the CELL (what 0), what it costs (1).");
        EchoFines x = Check.told(WALL + ";law 1 4 5;law 1 0 1");
        check.due("what 0", x.stand(0, 99, false, 23, 0), 2);
        check.due("what 1", x.stand(0, 99, false, 23, 1), 1);
        check.due("loud 1", x.stand(0, 1, false, 0, 1), 0);
        check.due("a stays", x.person(0, 0), 0);
        check.due("nothing is cried", x.count(5), 0);
        check.due("nothing is owed", x.owed(0, 1), LIFT);
    }

    private static void fall() {
        check.of(18, "A CELL becomes ROCK of SOFT 0 (PERSONS there are nowhere) from FLOOR, or FLOOR from ROCK: 1 ROCK now, 0.");
        EchoFines x = Check.told("plan 6 6;rock 5 5 40;at a 0 0;at f 0 0;at b 1 0;law 1 0 5");
        check.due("floor to rock", x.fall(0), 1);
        check.due("it is rock", x.cell(0, 0), 1);
        check.due("soft 0", x.cell(0, 1), 0);
        check.due("a and f are nowhere", x.count(3), 2);
        check.due("b stays", x.person(1, 0), 1);
        check.due("rock to floor", x.fall(0), 0);
        check.due("a stays nowhere", x.person(0, 0), NONE);
        check.due("nobody is there", x.cell(0, 2), 0);
        check.due("the last cell: soft rock to floor", x.fall(35), 0);
        check.due("soft of floor", x.cell(35, 1), 0);
        check.due("and to rock", x.fall(35), 1);
        check.due("not soft as it was", x.cell(35, 1), 0);
        check.due("rocks", x.count(2), 1);
        check.due("none behind the last", x.fall(36), UNKNOWN);
        check.due("the text stays", Check.write(x, "fade"), 4);
    }

    private static void fallEverywhere() {
        check.of(18, "(PERSONS there are nowhere)");
        EchoFines x = Check.told(WALL + ";law 1 0 5");
        check.due("cry", x.cry(0, 20, false, 0), 5);
        check.due("note", x.note(1, 5), 1);
        check.due("keep(1)", x.keep(1), 1);
        for (int cell = 0; cell < 4; cell++) check.due("fall(" + cell + ")", x.fall(cell), 1);
        check.due("all is rock", x.count(2), 5);
        check.due("nobody is anywhere", x.count(3), 0);
        check.due("nobody can cry", x.cry(0, 20, false, 0), NOT);
        check.due("what is owed stays", x.owed(0, 1), LIFT + 5);
        check.due("cries stay", x.count(5), 1);
        check.due("notes stay", x.count(6), 1);
        check.due("laws stay", x.count(4), 1);
        check.due("what was kept stays", x.back(1), 1);
        check.due("a is there again", x.person(0, 0), 0);
    }

    private static void changedToRock() {
        check.of(19, "CHANGED by a CELL that becomes ROCK (SOFT 0) from FLOOR,");
        EchoFines x = Check.told("plan 4 1;fade 0;at a 0 0;at b 1 0;at c 2 0");
        // soft rock would leave nothing of a high cry
        check.due("rock at 3, high", x.changed(3, 0, 1, true), 3);
        check.due("rock at 3, low", x.changed(3, 0, 1, false), 3);
        check.due("rock at 2: c is left out", x.changed(2, 0, 9, false), 1);
        check.due("rock at 1: c hears nothing, a no echo", x.changed(1, 0, 9, false), 4);
        check.due("behind the crier", Check.told("plan 4 1;at a 3 0;at b 2 0").changed(0, 3, 9, false), 3);
        check.due("too far for it", Check.told("plan 4 1;at a 3 0;at b 2 0").changed(0, 3, 3, false), 0);
        check.due("off all ways", Check.told("plan 3 3;at a 0 0;at b 1 1;at c 2 2").changed(5, 0, 9, false), 0);
        // beside a slanting way it matters only where that is thrown back
        EchoFines y = Check.told("plan 3 3;rock 2 0 0;fade 0;at a 0 2;at b 0 0;at c 2 2");
        check.due("it turns by the column then", y.changed(5, 4, 9, false), 3);
        check.due("it turns by the row then", y.changed(1, 4, 9, false), 5);
    }

    private static void changedToFloor() {
        check.of(19, "or FLOOR from ROCK: PERSONS to whom other SOUNDS come by a CRY");
        EchoFines x = Check.told("plan 4 1;rock 3 0 50;fade 0;at a 0 0;at b 1 0;at c 2 0");
        check.due("no echo any more", x.changed(3, 0, 9, false), 3);
        check.due("of a high cry there was none", x.changed(3, 0, 9, true), 0);
        EchoFines y = Check.told("plan 5 1;rock 2 0 0;at a 0 0;at b 1 0;at d 3 0;at e 4 0;at f 4 0");
        check.due("it goes on behind it", y.changed(2, 0, 9, false), 1 | 8 | 16 | 32);
        check.due("a rock that nobody hears", Check.told("plan 3 3;rock 2 1 0;at a 0 0").changed(5, 0, 9, false), 0);
        EchoFines all = Check.told("plan 3 1;rock 2 0 0;at a 0 0;at b 0 0;at c 0 0;at d 0 0;at e 0 0;at f 0 0");
        check.due("all six", all.changed(2, 0, 9, false), 63);
    }

    private static void changedByEachPart() {
        check.of(19, "(by TICKS, LOUD, how often THROWN BACK,");
        // one echo in tick 7 or 3, as loud, thrown back as often
        check.due("only the tick", Check.told("plan 5 1;rock 0 0 0;fade 0;at a 4 0").changed(2, 4, 16, false), 1);
        // two echoes in tick 2 for one another: by way 1, 6 loud, or by way 7, 10 loud
        check.due("only the loud", Check.told("plan 3 3;rock 0 0 20;rock 2 0 50;at a 0 2").changed(1, 4, 13, false), 1);
        // as loud as well: it is the same but for its way
        check.due("only the way", Check.told("plan 3 3;rock 0 0 50;rock 2 0 50;at a 0 2").changed(1, 4, 13, false), 0);
        // in tick 5, by one rock or by three
        EchoFines x = Check.told("plan 4 4;rock 1 0 0;rock 2 2 0;rock 3 2 0;rock 0 3 0;fade 0;at a 3 0");
        check.due("only how often thrown back", x.changed(9, 3, 9, false), 1);
        check.due("tick 5, thrown back", x.led(3, 9, false, 2, 3), 1);
        x.fall(9);
        check.due("tick 5", x.led(3, 9, false, 2, 1), 5);
        check.due("tick 5, thrown back then", x.led(3, 9, false, 2, 3), 3);
    }

    private static void changedEachAsOften() {
        check.of(19, "each as often);");
        EchoFines x = Check.told("plan 5 1;rock 4 0 0;at a 2 0");
        check.due("twice instead of once", x.changed(0, 2, 4, false), 1);
        check.due("nothing instead of nothing", x.changed(0, 2, 2, false), 0);
        x.fall(0);
        check.due("once instead of twice", x.changed(0, 2, 4, false), 1);
        // two of 2 loud and one of 5 in tick 3; then one more of 5
        EchoFines y = Check.told("plan 5 5;rock 2 0 50;rock 4 2 50;rock 2 4 0;fade 2;at a 2 2");
        check.due("three echoes", y.sounds(12, 9, false, 12, 0), 3);
        check.due("one more of those", y.changed(10, 12, 9, false), 1);
    }

    private static void changedLeavesOut() {
        check.of(19, "those at that CELL are left out.");
        EchoFines x = Check.told("plan 4 1;at a 0 0;at b 2 0;at c 2 0;at d 3 0");
        check.due("b and c are left out, d hears nothing, a an echo", x.changed(2, 0, 9, false), 9);
        // b and c, right before that rock, hear no echo of it
        check.due("d is left out", x.changed(3, 0, 9, false), 1);
        check.due("alone there", Check.told("plan 2 1;at a 1 0").changed(1, 0, 9, false), 0);
        check.due("nobody anywhere", new EchoFines().changed(1, 0, 9, false), 0);
    }

    private static void changed() {
        check.of(19, "CHANGED, by bits.");
        EchoFines x = Check.told("plan 3 1;rock 2 0 7;at f 0 0;at c 1 0");
        check.due("f alone", x.changed(2, 0, 9, false), 32);
        check.due("loud 1", x.changed(2, 0, 1, false), 0);
        check.due("loud 99", x.changed(2, 0, 99, true), 32);
        check.due("the rock is as it was", x.cell(2, 1), 7);
        check.due("c is where it was", x.person(2, 0), 1);
        check.due("c is where it was, by its own cell", x.changed(1, 0, 99, true), 32);
        check.due("and still", x.person(2, 0), 1);
    }
}
