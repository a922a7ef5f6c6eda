/** For how many calls an object is used: the 512th is answered as the first is. */
public final class CallsTest {
    private static final int CALLS = 512;
    private static final int LIFT = 100000000;
    private static final Check check = new Check();

    interface Asked {
        int of(EchoFines x);
    }

    public static void main(String[] args) {
        check.of(1, "An object is used for at most 512 calls after it has been made;");
        questions();
        textsToTheEnd();
        criesAndImagesToTheEnd();
        notesToTheEnd();
        rocksToTheEnd();
        check.end();
    }

    /** Four writes of eight bytes each and canyon() are five calls. */
    private static final String TEXT = "plan 4 1;rock 3 0 0;law 1 0 5   ";
    private static final int TOLD = 2 * 5;

    private static EchoFines told() {
        return Check.told(TEXT, "at a 0 0;at b 1 0;at c 0 0      ");
    }

    private static void asked(String name, int want, Asked question) {
        EchoFines x = told();
        for (int call = TOLD + 1; call <= CALLS; call++) check.due(name + ", call " + call, question.of(x), want);
    }

    private static void questions() {
        asked("fault()", 0, EchoFines::fault);
        asked("canyon()", -4, EchoFines::canyon);
        asked("erase()", 0, EchoFines::erase);
        asked("cell", 5, x -> x.cell(0, 2));
        asked("person", 1, x -> x.person(1, 0));
        asked("law", 5, x -> x.law(0, 2));
        asked("costs", 10, x -> x.costs(0, 20, false, 0));
        asked("sounds", 2, x -> x.sounds(0, 20, false, 1, 0));
        asked("led", 5, x -> x.led(0, 20, false, 2, 1));
        asked("whisper", 7, x -> x.whisper(0, 20, true));
        asked("owed", LIFT, x -> x.owed(0, 1));
        asked("pay", -4, x -> x.pay(0, 1, 1));
        asked("settled", 0, EchoFines::settled);
        asked("stand", 10, x -> x.stand(1, 5, false, 0, 1));
        asked("changed", 7, x -> x.changed(3, 0, 20, false));
        asked("forget", 0, EchoFines::forget);
        asked("who", 100, x -> x.who(0, 20, false, 2));
        asked("living", 0, x -> x.living(1));
        asked("cancel", 5, x -> x.cancel(0, 2, false, 0, 0));
        asked("keep", 0, x -> x.keep(1));
        asked("back", -4, x -> x.back(0));
        asked("count", 1, x -> x.count(2));
    }

    /** Five calls a text, so that the last is the 510th, and two to look at what it made. */
    private static void textsToTheEnd() {
        EchoFines x = new EchoFines();
        for (int i = 0; i < CALLS / 5; i++) {
            int fade = i % 10;
            int lines = Check.tell(x, "plan 3 2;fade " + fade + ";rock 2 1 " + (10 + i % 90) + "     ");
            check.due("text " + i, lines, 3);
        }
        check.due("fade, call 511", x.count(7), (CALLS / 5 - 1) % 10);
        check.due("soft, call 512", x.cell(5, 1), 10 + (CALLS / 5 - 1) % 90);
    }

    private static void criesAndImagesToTheEnd() {
        EchoFines x = told();
        int call = TOLD;
        check.due("keep(0)", x.keep(0), 0);
        call++;
        while (call + 23 <= CALLS) {
            for (int i = 1; i <= 20; i++) check.due("cry " + i, x.cry(0, 20, false, 0), 10);
            check.due("keep(1)", x.keep(1), 20);
            check.due("owed", x.owed(0, 1), LIFT + 100);
            check.due("back(0)", x.back(0), 0);
            call += 23;
        }
        for (; call < CALLS - 1; call++) check.due("owed", x.owed(0, 1), LIFT);
        check.due("back(1), call 511", x.back(1), 20);
        check.due("owed, call 512", x.owed(0, 1), LIFT + 100);
    }

    private static void notesToTheEnd() {
        EchoFines x = told();
        int call = TOLD;
        while (call + 13 <= CALLS - 2) {
            for (int i = 1; i <= 12; i++) check.due("note " + i, x.note(1, 50), i);
            check.due("forget()", x.forget(), 12);
            call += 13;
        }
        for (; call < CALLS - 2; call++) check.due("count(6)", x.count(6), 0);
        check.due("note, call 511", x.note(1, 50), 1);
        // b hears a in ticks 1 and 4
        check.due("who, call 512", x.who(0, 20, false, 2), 2);
    }

    private static void rocksToTheEnd() {
        EchoFines x = told();
        for (int call = TOLD + 1; call < CALLS; call++) check.due("fall, call " + call, x.fall(2), (call - TOLD) % 2);
        check.due("rocks, call 512", x.count(2), 1 + (CALLS - 1 - TOLD) % 2);
    }
}
