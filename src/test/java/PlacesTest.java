/** Promises 17 to 19: stand, fall, changed. */
public final class PlacesTest {
    private static final int UNKNOWN = -2, OUTSIDE = -3, NOT = -4;
    private static final Check check = new Check();

    public static void main(String[] args) {
        stand();
        standRefused();
        fall();
        changed();
        changedInNumber();
        changedRefused();
        check.end();
    }

    private static void stand() {
        // # . . b #: from 1 the echoes that come to b cost most, from 3 (b's own cell) they come to it too
        EchoFines x = Check.told("plan 5 1;rock 0 0 50;rock 4 0 0;at a 1 0;at b 3 0;law 1 0 5;fade 1;night 1 2 3");
        int least = Integer.MAX_VALUE;
        int best = -1;
        int[] windows = {1, 2, 3};
        for (int cell : windows) {
            EchoFines y = Check.told("plan 5 1;rock 0 0 50;rock 4 0 0;at a " + cell + " 0;at b 3 0;law 1 0 5;fade 1");
            int cost = y.costs(0, 9, false, 0);
            if (cost < least) {
                least = cost;
                best = cell;
            }
        }
        check.due("where", x.stand(0, 9, false, 0, 0), best);
        check.due("what it costs", x.stand(0, 9, false, 0, 1), least);
        check.due("by night", x.stand(0, 9, false, 1, 1), 3 * least);
        check.due("a is where it was", x.person(0, 0), 1);
        check.due("nothing was cried", x.count(5), 0);
        // the least of several, and not a rock
        EchoFines free = Check.told("plan 3 1;rock 0 0 0;at a 2 0;at b 2 0");
        check.due("least cell of floor", free.stand(0, 9, true, 0, 0), 1);
        check.due("costs nothing", free.stand(0, 9, true, 0, 1), 0);
        // nothing else than the crier's own window moves
        EchoFines alone = Check.told("plan 2 1;at a 1 0;law 1 0 1");
        check.due("alone", alone.stand(0, 99, false, 23, 0), 0);
    }

    private static void standRefused() {
        EchoFines x = Check.told("at a 0 0");
        check.due("person -1", x.stand(-1, 0, false, 24, 9), UNKNOWN);
        check.due("person 6", x.stand(6, 5, false, 0, 0), UNKNOWN);
        check.due("loud 0", x.stand(1, 0, false, 0, 0), OUTSIDE);
        check.due("loud 100", x.stand(0, 100, false, 0, 0), OUTSIDE);
        check.due("hour -1", x.stand(0, 5, false, -1, 0), OUTSIDE);
        check.due("hour 24", x.stand(0, 5, false, 24, 0), OUTSIDE);
        check.due("what -1", x.stand(1, 5, false, 0, -1), OUTSIDE);
        check.due("what 2", x.stand(0, 5, false, 0, 2), OUTSIDE);
        check.due("nowhere", x.stand(1, 5, false, 0, 0), NOT);
    }

    private static void fall() {
        EchoFines x = Check.told("plan 3 1;rock 2 0 40;at a 0 0;at b 0 0;at c 1 0;law 1 0 5");
        check.due("c cries", x.cry(2, 20, false, 0), 10);
        check.due("rock falls", x.fall(0), 1);
        check.due("it is rock", x.cell(0, 0), 1);
        check.due("of soft 0", x.cell(0, 1), 0);
        check.due("a is nowhere", x.person(0, 0), -1);
        check.due("b is nowhere", x.person(1, 0), -1);
        check.due("c is there", x.person(2, 0), 1);
        check.due("what is owed stays", x.owed(2, 0), 100000005);
        check.due("cries stay", x.count(5), 1);
        check.due("it falls away", x.fall(0), 0);
        check.due("it is floor", x.cell(0, 0), 0);
        check.due("a stays nowhere", x.person(0, 0), -1);
        check.due("soft rock falls away", x.fall(2), 0);
        check.due("its softness too", x.cell(2, 1), 0);
        check.due("and comes hard", x.fall(2), 1);
        check.due("soft 0", x.cell(2, 1), 0);
        check.due("cell -1", x.fall(-1), UNKNOWN);
        check.due("cell 3", x.fall(3), UNKNOWN);
        check.due("rocks", x.count(2), 1);
    }

    private static void changed() {
        EchoFines x = Check.told("plan 4 1;rock 3 0 0;at a 0 0;at b 1 0;at c 2 0;at d 2 0;fade 1");
        // without the rock no echo comes; beside it (c, d) none came: what is thrown back stays at its cell
        check.due("the rock falls away", x.changed(3, 0, 20, false), 1 | 2);
        check.due("too low for its echo", x.changed(3, 0, 3, false), 0);
        check.due("just loud enough for b", x.changed(3, 0, 4, false), 2);
        check.due("c's own cell", x.changed(2, 0, 20, false), 1 | 2);
        check.due("behind the rock nothing", Check.told("plan 5 1;rock 3 0 0;at a 0 0").changed(4, 0, 20, false), 0);
        check.due("b's cell", x.changed(1, 0, 20, false), 1 | 4 | 8);
        check.due("all as it was", x.count(2), 1);
        check.due("c is there", x.person(2, 0), 2);
        // a soft rock that becomes floor and one that becomes hard are not the same
        EchoFines y = Check.told("plan 4 1;rock 3 0 50;at a 0 0");
        check.due("to floor", y.changed(3, 0, 20, false), 1);
    }

    private static void changedInNumber() {
        // a rock over a's head and one more below: the same sound, but twice
        EchoFines x = Check.told("plan 5 5;rock 2 0 0;at a 2 2");
        check.due("it comes once", x.sounds(12, 9, false, 12, 0), 1);
        check.due("one more of the same kind", x.changed(22, 12, 9, false), 1);
        check.due("another one, too far for it", x.changed(22, 12, 2, false), 0);
    }

    private static void changedRefused() {
        EchoFines x = Check.told("rock 1 0 0;at a 0 0");
        check.due("cell -1", x.changed(-1, 0, 0, false), UNKNOWN);
        check.due("cell 16", x.changed(16, 0, 5, false), UNKNOWN);
        check.due("from -1", x.changed(0, -1, 0, false), UNKNOWN);
        check.due("from 16", x.changed(0, 16, 5, false), UNKNOWN);
        check.due("both 16", x.changed(16, 16, 5, false), UNKNOWN);
        check.due("loud 0", x.changed(0, 1, 0, false), OUTSIDE);
        check.due("loud 100", x.changed(0, 1, 100, false), OUTSIDE);
        check.due("one cell", x.changed(1, 1, 5, false), OUTSIDE);
        check.due("rock", x.changed(0, 1, 5, false), NOT);
    }
}
