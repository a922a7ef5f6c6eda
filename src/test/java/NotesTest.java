/** Promises 20 to 27: note, forget, who, living, cancel, keep, back, count. */
public final class NotesTest {
    private static final int NONE = -1, UNKNOWN = -2, OUTSIDE = -3, NOT = -4, FULL = -5;
    private static final Check check = new Check();

    public static void main(String[] args) {
        noteAndForget();
        who();
        whoAtTheEdges();
        living();
        cancel();
        keepAndBack();
        count();
        check.end();
    }

    private static void noteAndForget() {
        EchoFines x = new EchoFines();
        check.due("person -1", x.note(-1, -1), UNKNOWN);
        check.due("person 6", x.note(6, 0), UNKNOWN);
        check.due("minute -1", x.note(0, -1), OUTSIDE);
        check.due("minute 100", x.note(0, 100), OUTSIDE);
        check.due("none yet", x.count(6), 0);
        for (int i = 1; i <= 12; i++) check.due("note " + i, x.note(i % 6, 99), i);
        check.due("note 13", x.note(0, 0), FULL);
        check.due("note 13 of nobody", x.note(6, 0), UNKNOWN);
        check.due("note 13 out of time", x.note(0, 100), OUTSIDE);
        check.due("twelve", x.count(6), 12);
        check.due("forget", x.forget(), 12);
        check.due("forget again", x.forget(), 0);
        check.due("note anew", x.note(0, 0), 1);
    }

    private static void who() {
        // a at 0, b at 1, c at 3, all in the open: b hears a in tick 1 and c in tick 2
        EchoFines x = Check.told("plan 6 1;at a 0 0;at b 1 0;at c 3 0");
        check.due("no notes, above", x.who(0, 9, false, 0), 1);
        check.due("no notes, below", x.who(0, 9, false, 1), 3);
        check.due("no notes, minutes", x.who(0, 9, false, 2), 100);
        x.note(1, 50);
        check.due("a may have been", x.who(0, 9, false, 2), 1);
        check.due("a, above", x.who(0, 9, false, 0), 1);
        check.due("a, below", x.who(0, 9, false, 1), 2);
        check.due("b may not", x.who(1, 9, false, 2), 0);
        check.due("b, above", x.who(1, 9, false, 0), 0);
        check.due("b, below", x.who(1, 9, false, 1), 1);
        check.due("c may have been", x.who(2, 9, false, 2), 1);
        check.due("c too low", x.who(2, 2, false, 2), 0);
        check.due("a then for sure", x.who(0, 2, false, 1), 1);
        check.due("c then for sure not", x.who(2, 2, false, 0), 0);
        x.note(2, 52);
        check.due("a by two notes", x.who(0, 9, false, 2), 1);
        check.due("c by its own note", x.who(2, 9, false, 2), 0);
        x.note(2, 53);
        check.due("nobody by three", x.who(0, 9, false, 0), NOT);
        check.due("nobody by three, below", x.who(0, 9, false, 1), NOT);
        check.due("nobody by three, minutes", x.who(0, 9, false, 2), 0);
        x.forget();
        x.note(4, 50);
        check.due("one that is nowhere hears nothing", x.who(0, 9, false, 2), 0);
        check.due("d is nowhere", x.who(3, 9, false, 2), NOT);
    }

    private static void whoAtTheEdges() {
        EchoFines x = Check.told("plan 6 1;at a 0 0;at b 1 0;at c 3 0");
        x.note(1, 0);
        check.due("before all minutes", x.who(0, 9, false, 2), 0);
        x.forget();
        x.note(1, 1);
        check.due("in minute 0", x.who(0, 9, false, 2), 1);
        check.due("c not before", x.who(2, 9, false, 2), 0);
        x.note(1, 1);
        check.due("a note twice", x.who(0, 9, false, 2), 1);
        check.due("person -1", x.who(-1, 0, false, 9), UNKNOWN);
        check.due("person 6", x.who(6, 9, false, 0), UNKNOWN);
        check.due("loud 0", x.who(5, 0, false, 0), OUTSIDE);
        check.due("loud 100", x.who(0, 100, false, 0), OUTSIDE);
        check.due("part -1", x.who(5, 9, false, -1), OUTSIDE);
        check.due("part 3", x.who(0, 9, false, 3), OUTSIDE);
        check.due("nowhere", x.who(5, 9, false, 0), NOT);
        // echoes fit as well: b hears a in ticks 1 and 4
        EchoFines y = Check.told("plan 4 1;rock 3 0 0;at a 0 0;at b 1 0;at c 0 0");
        y.note(1, 50);
        check.due("two minutes", y.who(0, 9, false, 2), 2);
        check.due("in lowest terms, above", y.who(0, 9, false, 0), 1);
        check.due("in lowest terms, below", y.who(0, 9, false, 1), 2);
        y.note(1, 53);
        check.due("one minute", y.who(0, 9, false, 2), 1);
        // c in a's cell hears the echo in tick 5
        y.note(2, 54);
        check.due("c heard it", y.who(0, 9, false, 2), 1);
        check.due("it was a", y.who(0, 9, false, 1), 1);
        // between two rocks b, beside a, hears each cry of a in ticks 3, 4, 7, 8, .. 59, 60
        EchoFines pair = Check.told("plan 4 1;rock 0 0 0;rock 3 0 0;fade 0;at a 1 0;at b 1 0");
        pair.note(1, 60);
        check.due("ticks up to the sixtieth", pair.who(0, 9, false, 2), 30);
        pair.note(1, 3);
        check.due("minute 0, by ticks 3 and 60", pair.who(0, 9, false, 2), 1);
    }

    private static void living() {
        EchoFines none = Check.told("plan 1 1;rock 0 0 0");
        check.due("no floor", none.living(0), NONE);
        check.due("no floor, how much", none.living(1), NONE);
        check.due("what -1", none.living(-1), OUTSIDE);
        check.due("what 2", none.living(2), OUTSIDE);
        EchoFines x = Check.told("plan 5 1;rock 4 0 0;at a 3 0;at b 0 0;law 4 0 7;law 1 0 2;night 5 6 3");
        check.due("no cries", x.living(0), 0);
        check.due("no cries, how much", x.living(1), 0);
        // a, loud 6: thrown back in tick 1, to 2 in tick 2 (5 loud), 1 in 3 (4), 0 in 4 (3)
        check.due("a cries", x.cry(0, 6, false, 0), 2);
        check.due("where", x.living(0), 1);
        check.due("how much", x.living(1), 7);
        check.due("a cries by night", x.cry(0, 6, true, 5), 6);
        check.due("where by both", x.living(0), 1);
        check.due("how much by both", x.living(1), 28);
        // b, loud 8: comes to 3 in tick 3, thrown back in 4, to 2 in 5, (4) 1 in 6 (3)
        check.due("b cries", x.cry(1, 8, false, 12), 0);
        check.due("where by three", x.living(0), 2);
        check.due("how much by three", x.living(1), 35);
        // by windows as they are now: a's cries come to nothing when it is nowhere
        x.fall(3);
        check.due("a is nowhere", x.person(0, 0), NONE);
        check.due("where now", x.living(0), 0);
        check.due("how much now", x.living(1), 7);
        x.fall(3);
        x.fall(4);
        check.due("no rock, nothing", x.living(1), 0);
    }

    private static void cancel() {
        // # a b #: a hears b as b hears a
        EchoFines x = Check.told("plan 4 1;rock 0 0 0;rock 3 0 0;at a 1 0;at b 2 0;law 1 0 5;night 3 4 2");
        // a of loud 2: thrown back by the left (still 2), comes to b with 1 loud: the first echo
        check.due("a", x.cancel(0, 1, false, 0, 0), 2);
        check.due("b", x.cancel(0, 1, false, 0, 1), 2);
        check.due("how much", x.cancel(0, 1, false, 0, 2), 5);
        check.due("by night", x.cancel(0, 1, false, 3, 2), 10);
        check.due("high", x.cancel(0, 1, true, 0, 0), 2);
        check.due("nothing is cried", x.count(5), 0);
        // where b's rock is soft, b must be louder
        EchoFines soft = Check.told("plan 4 1;rock 0 0 0;rock 3 0 60;at a 1 0;at b 2 0;law 1 0 5");
        check.due("a, soft", soft.cancel(0, 1, false, 0, 0), 2);
        // 3 less 1 (of 1.8) is 2, less 1 is 1
        check.due("b, soft", soft.cancel(0, 1, false, 0, 1), 3);
        check.due("the other way", soft.cancel(1, 0, false, 0, 0), 3);
        check.due("the other way", soft.cancel(1, 0, false, 0, 1), 2);
        check.due("high: all is taken", soft.cancel(0, 1, true, 0, 0), NONE);
        EchoFines no = Check.told("plan 4 1;at a 1 0;at b 2 0;law 1 0 5");
        for (int what = 0; what < 3; what++) check.due("no echoes", no.cancel(0, 1, false, 0, what), NONE);
        // 40 at most
        String walls = "plan 4 1;rock 0 0 0;rock 3 0 0;at a 1 0;at b 2 0;fade 0;";
        check.due("least a of all", Check.told(walls + "law 1 0 5").cancel(0, 1, false, 0, 0), 1);
        check.due("least b of all", Check.told(walls + "law 1 0 5").cancel(0, 1, false, 0, 1), 1);
        check.due("loud 40", Check.told(walls + "law 40 0 5").cancel(0, 1, false, 0, 0), 40);
        check.due("loud 41", Check.told(walls + "law 41 0 5").cancel(0, 1, false, 0, 0), NONE);
        check.due("person -1", x.cancel(-1, -1, false, 24, 9), UNKNOWN);
        check.due("person 6", x.cancel(0, 6, false, 0, 0), UNKNOWN);
        check.due("one and itself", x.cancel(5, 5, false, 0, 0), OUTSIDE);
        check.due("hour -1", x.cancel(0, 1, false, -1, 0), OUTSIDE);
        check.due("hour 24", x.cancel(0, 5, false, 24, 0), OUTSIDE);
        check.due("what -1", x.cancel(0, 1, false, 0, -1), OUTSIDE);
        check.due("what 3", x.cancel(0, 5, false, 0, 3), OUTSIDE);
        check.due("one nowhere", x.cancel(5, 0, false, 0, 0), NOT);
        check.due("other nowhere", x.cancel(0, 5, false, 0, 0), NOT);
    }

    private static void keepAndBack() {
        EchoFines x = Check.told("plan 4 1;rock 3 0 30;at a 0 0;at b 1 0;law 1 0 5");
        check.due("keep -1", x.keep(-1), UNKNOWN);
        check.due("keep 2", x.keep(2), UNKNOWN);
        check.due("back -1", x.back(-1), UNKNOWN);
        check.due("back 2", x.back(2), UNKNOWN);
        check.due("back of nothing", x.back(0), NOT);
        check.due("keep 0", x.keep(0), 0);
        check.due("back 1 of nothing", x.back(1), NOT);
        x.cry(0, 20, false, 0);
        x.note(1, 7);
        check.due("keep 1", x.keep(1), 1);
        x.cry(0, 20, false, 0);
        x.note(1, 8);
        x.pay(0, 1, 10);
        x.fall(3);
        x.fall(1);
        Check.write(x, "fade");
        check.due("back 1", x.back(1), 1);
        check.due("owed", x.owed(0, 1), 100000005);
        check.due("cries of a", x.person(0, 2), 1);
        check.due("notes", x.count(6), 1);
        check.due("rock", x.cell(3, 1), 30);
        check.due("b", x.person(1, 0), 1);
        check.due("living", x.living(1), 5);
        check.due("the text stays", x.count(8), 4);
        check.due("back 0", x.back(0), 0);
        check.due("owed then", x.owed(0, 1), 100000000);
        check.due("notes then", x.count(6), 0);
        x.cry(1, 20, false, 0);
        check.due("back 1 again", x.back(1), 1);
        check.due("owed again", x.owed(0, 1), 100000005);
        check.due("keep over", x.keep(0), 1);
        check.due("back 0 is another one", x.back(0), 1);
        check.due("a text with a fault", x.canyon(), NOT);
        check.due("is no text", x.back(0), 1);
        check.due("erase", x.erase(), 4);
        check.due("is none either", x.back(1), 1);
        // what is noted after back is not noted in the image
        x.note(0, 0);
        x.back(1);
        check.due("image is as it was", x.count(6), 1);
    }

    private static void count() {
        EchoFines x = Check.told("plan 5 3;rock 0 0 1;rock 1 0 1;at b 4 2;at f 4 2;law 1 1 1;law 2 2 2;law 3 3 3",
            "night 10 12 4;fade 0");
        x.cry(1, 1, false, 0);
        x.note(0, 0);
        x.note(0, 0);
        Check.write(x, "abc");
        int[] want = {5, 3, 2, 34, 3, 1, 2, 0, 3, 3 << 10, 4};
        for (int what = 0; what < want.length; what++) check.due("count " + what, x.count(what), want[what]);
        check.due("count -1", x.count(-1), OUTSIDE);
        check.due("count 11", x.count(11), OUTSIDE);
        check.due("count most", x.count(Integer.MAX_VALUE), OUTSIDE);
        check.due("count least", x.count(Integer.MIN_VALUE), OUTSIDE);
    }
}
