/** Promises 1 to 8: a new object, write, erase, fault, canyon, cell, person, law. */
public final class ToldTest {
    private static final int NONE = -1, UNKNOWN = -2, OUTSIDE = -3, NOT = -4, FULL = -5;
    private static final Check check = new Check();

    public static void main(String[] args) {
        newObject();
        write();
        erase();
        faultOfWords();
        faultOfNumbers();
        faultBehindLines();
        faultOfBlanksAndBytes();
        canyon();
        canyonClears();
        cell();
        person();
        law();
        check.end();
    }

    private static void newObject() {
        EchoFines x = new EchoFines();
        check.due("new count(0)", x.count(0), 4);
        check.due("new count(1)", x.count(1), 4);
        int[] nothing = {2, 3, 4, 5, 6, 8, 9};
        for (int what : nothing) check.due("new count(" + what + ")", x.count(what), 0);
        check.due("new fade", x.count(7), 1);
        check.due("new night", x.count(10), 1);
        for (int cell = 0; cell < 16; cell++) {
            for (int what = 0; what < 3; what++) check.due("new cell " + cell, x.cell(cell, what), 0);
        }
        check.due("new cell 16", x.cell(16, 0), UNKNOWN);
        for (int person = 0; person < 6; person++) {
            check.due("new person", x.person(person, 0), NONE);
            check.due("new net", x.person(person, 1), 100000000);
            check.due("new cries", x.person(person, 2), 0);
        }
        check.due("new law", x.law(0, 0), NONE);
        check.due("new back", x.back(0), NOT);
    }

    private static void write() {
        EchoFines x = new EchoFines();
        check.due("write 0", x.write(0, 0), OUTSIDE);
        check.due("write -1", x.write(0, -1), OUTSIDE);
        check.due("write 9", x.write(0, 9), OUTSIDE);
        check.due("write least", x.write(0, Integer.MIN_VALUE), OUTSIDE);
        check.due("write most", x.write(0, Integer.MAX_VALUE), OUTSIDE);
        check.due("bytes", x.count(8), 0);
        for (int i = 1; i <= 24; i++) check.due("write 8", x.write(-1L, 8), 8 * i);
        check.due("write 7", x.write(-1L, 7), 199);
        check.due("write 2 at 199", x.write(0, 2), FULL);
        check.due("write 9 at 199", x.write(0, 9), OUTSIDE);
        check.due("bytes at 199", x.count(8), 199);
        check.due("write 1 at 199", x.write(0, 1), 200);
        check.due("write 1 at 200", x.write(0, 1), FULL);
        check.due("bytes at 200", x.count(8), 200);
        // the bytes above the n-th are not looked at, and byte 0 is the first
        EchoFines y = new EchoFines();
        check.due("write fade", y.write(0x7777_7733_2065_6461L << 8 | 'f', 6), 6);
        check.due("fade 3", y.canyon(), 1);
        check.due("fade is 3", y.count(7), 3);
        // a full text of 200 bytes can be done
        EchoFines z = new EchoFines();
        Check.write(z, " ".repeat(190) + "    fade 7");
        check.due("bytes of a full text", z.count(8), 200);
        check.due("a full text is done", z.canyon(), 1);
        check.due("fade is 7", z.count(7), 7);
    }

    private static void erase() {
        EchoFines x = new EchoFines();
        check.due("erase nothing", x.erase(), 0);
        Check.write(x, "rubbish");
        check.due("erase", x.erase(), 7);
        check.due("bytes then", x.count(8), 0);
        check.due("erase again", x.erase(), 0);
        Check.write(x, "fade 2");
        check.due("fault of what came behind", x.fault(), NONE);
    }

    private static void faultOfWords() {
        check.fault("", 0);
        check.fault("   ", 3);
        check.fault("plan", 4);
        check.fault("planx 1 1", 0);
        check.fault("Plan 1 1", 0);
        check.fault("plan 1 1", NONE);
        check.fault("pl an 1 1", 0);
        check.fault("echo", 0);
        check.fault("5", 0);
        check.fault(";", 0);
        check.fault("free", NONE);
        check.fault("free 1", 5);
        check.fault("free free", 5);
        check.fault("free;", 5);
        check.fault("free; ", 6);
        check.fault("free;;free", 5);
        check.fault("free.", 4);
        check.fault("gone", 4);
        check.fault("gone a", NONE);
        check.fault("gone f", NONE);
        check.fault("gone g", 5);
        check.fault("gone z", 5);
        check.fault("gone aa", 5);
        check.fault("gone 1", 5);
        check.fault("gone a b", 7);
        check.fault("at A 0 0", 3);
        check.fault("at a 0 0", NONE);
        check.fault("ata 0 0", 0);
        check.fault("free;free;free;free;free;free;free;free;free;free", NONE);
        check.fault("free;free;free;free;free;free;free;free;free;free;", 49);
        check.fault("free;free;free;free;free;free;free;free;free;free;free", 49);
    }

    private static void faultOfNumbers() {
        check.fault("plan 0 1", 5);
        check.fault("plan 6 6", NONE);
        check.fault("plan 7 1", 5);
        check.fault("plan 1 0", 7);
        check.fault("plan 1 7", 7);
        check.fault("plan 01 06", NONE);
        check.fault("plan 001 1", 5);
        check.fault("plan 1", 6);
        check.fault("plan a 1", 5);
        check.fault("plan -1 1", 5);
        check.fault("plan 1 1 1", 9);
        check.fault("plan 11", 5);
        check.fault("rock 3 3 99", NONE);
        check.fault("rock 3 3 100", 9);
        check.fault("rock 3 3 099", 9);
        check.fault("rock 3 3", 8);
        check.fault("rock 4 0 0", 5);
        check.fault("rock 0 4 0", 7);
        check.fault("floor 3 3", NONE);
        check.fault("floor 4 3", 6);
        check.fault("floor 3 4", 8);
        check.fault("floor 3 3 1", 10);
        check.fault("at a 4 0", 5);
        check.fault("at a 0 4", 7);
        check.fault("law 1 0 1", NONE);
        check.fault("law 99 60 99", NONE);
        check.fault("law 0 0 1", 4);
        check.fault("law 100 0 1", 4);
        check.fault("law 1 61 1", 6);
        check.fault("law 1 0 0", 8);
        check.fault("law 1 0 100", 8);
        check.fault("night 0 0 1", NONE);
        check.fault("night 23 23 9", NONE);
        check.fault("night 24 0 1", 6);
        check.fault("night 0 24 1", 8);
        check.fault("night 0 0 0", 10);
        check.fault("night 0 0 10", 10);
        check.fault("fade 0", NONE);
        check.fault("fade 9", NONE);
        check.fault("fade 10", 5);
        check.fault("fade 00000000001", 5);
        check.fault("fade 99999999999999999999", 5);
    }

    private static void faultBehindLines() {
        check.fault("plan 2 3;rock 1 2 0", NONE);
        check.fault("plan 2 3;rock 2 0 0", 14);
        check.fault("plan 2 3;rock 0 3 0", 16);
        check.fault("rock 1 1 5;at a 1 1", 18);
        check.fault("rock 1 1 5;floor 1 1;at a 1 1", NONE);
        check.fault("rock 1 1 5;plan 4 4;at a 1 1", NONE);
        String law = "law 1 1 1;";
        check.fault(law.repeat(6) + "fade 1", NONE);
        check.fault(law.repeat(6) + "law", 60);
        check.fault(law.repeat(6) + "free;law 1 1 1", NONE);
        EchoFines x = Check.told("law 1 1 1;law 1 1 1;law 1 1 1;law 1 1 1;law 1 1 1", "rock 2 2 0");
        check.faultOf(x, "law 2 2 2", NONE);
        check.faultOf(x, "law 2 2 2;law 3 3 3", 10);
        check.faultOf(x, "at a 2 2", 7);
        check.faultOf(x, "plan 1 1;law 1 1 1;law 1 1 1", 19);
        // a fault leaves all as it was, the lines ahead of it too
        check.faultOf(x, "plan 2 2;free;fade 5;night 1 2 3;rock 0 0 1;at a 1 1;x", 53);
        check.due("columns", x.count(0), 4);
        check.due("laws", x.count(4), 5);
        check.due("fade", x.count(7), 1);
        check.due("night", x.count(9), 0);
        check.due("rocks", x.count(2), 1);
        check.due("persons", x.count(3), 0);
    }

    private static void faultOfBlanksAndBytes() {
        check.fault("fade3", NONE);
        check.fault("  fade   3  ;  fade 4  ", NONE);
        check.fault("plan1 1", NONE);
        check.fault("ata0 0", 0);
        check.fault("at a0 0", NONE);
        check.fault("fade\t3", 4);
        check.fault("fade 3\n", 6);
        check.fault("fade \u00e9", 5);
        check.fault("\u00ff", 0);
        check.fault("\0", 0);
        check.fault("fade 3\0", 6);
        check.fault("plan 2 ", 7);
        check.fault("fade ", 5);
        check.fault("rock 0 0 ;", 9);
        check.fault("rock 0 ;0 0", 7);
    }

    private static void canyon() {
        EchoFines x = new EchoFines();
        check.due("canyon of nothing", x.canyon(), NOT);
        Check.write(x, "plan 3 2;rock 2 1 40;at b 1 0;at f 1 0;law 7 8 9;night 23 2 4;fade 6");
        check.due("canyon", x.canyon(), 7);
        check.due("text then", x.count(8), 0);
        check.due("columns", x.count(0), 3);
        check.due("rows", x.count(1), 2);
        check.due("rocks", x.count(2), 1);
        check.due("persons", x.count(3), 34);
        check.due("laws", x.count(4), 1);
        check.due("fade", x.count(7), 6);
        check.due("hours", x.count(9), 1 << 23 | 3);
        check.due("times", x.count(10), 4);
        check.due("soft", x.cell(5, 1), 40);
        Check.write(x, "night 5 5 7");
        check.due("night from an hour to itself", x.canyon(), 1);
        check.due("no hours", x.count(9), 0);
        check.due("but times", x.count(10), 7);
        Check.write(x, "night 0 23 2");
        check.due("a long night", x.canyon(), 1);
        check.due("its hours", x.count(9), (1 << 23) - 1);
        Check.write(x, "plan 3 2");
        check.due("plan", x.canyon(), 1);
        check.due("plan: no rocks", x.count(2), 0);
        check.due("plan: persons nowhere", x.count(3), 0);
        check.due("plan: laws stay", x.count(4), 1);
        check.due("plan: fade stays", x.count(7), 6);
        check.due("plan: night stays", x.count(10), 2);
        Check.write(x, "at a 0 0;at b 0 0;at c 1 0;rock 0 0 5;rock 0 0 6;gone c;gone d");
        check.due("rock on windows", x.canyon(), 7);
        check.due("nobody is left", x.count(3), 0);
        check.due("soft anew", x.cell(0, 1), 6);
        Check.write(x, "at a 1 0;at a 2 0;floor 0 0;floor 2 0;free");
        check.due("moved", x.canyon(), 5);
        check.due("a is there", x.person(0, 0), 2);
        check.due("no rocks", x.count(2), 0);
        check.due("free", x.count(4), 0);
    }

    private static void canyonClears() {
        EchoFines x = Check.told("plan 4 1;rock 3 0 0;at a 0 0;at b 1 0;law 1 0 5");
        check.due("cry", x.cry(0, 9, false, 0), 5);
        x.note(0, 1);
        x.keep(0);
        x.keep(1);
        check.due("canyon of nothing", x.canyon(), NOT);
        check.due("still owed", x.owed(0, 1), 100000005);
        Check.write(x, "fade 1");
        check.due("canyon", x.canyon(), 1);
        check.due("nothing owed", x.owed(0, 1), 100000000);
        check.due("net", x.person(1, 1), 100000000);
        check.due("no cries", x.count(5), 0);
        check.due("no cries of a", x.person(0, 2), 0);
        check.due("no notes", x.count(6), 0);
        check.due("back 0", x.back(0), NOT);
        check.due("back 1", x.back(1), NOT);
        check.due("a is still there", x.person(0, 0), 0);
        check.due("living", x.living(1), 0);
    }

    private static void cell() {
        EchoFines x = Check.told("plan 5 3;rock 4 2 37;rock 0 1 0;at a 3 2;at f 3 2;at c 0 0");
        check.due("cell 14", x.cell(14, 0), 1);
        check.due("soft 14", x.cell(14, 1), 37);
        check.due("persons 14", x.cell(14, 2), 0);
        check.due("cell 5", x.cell(5, 0), 1);
        check.due("soft 5", x.cell(5, 1), 0);
        check.due("cell 13", x.cell(13, 0), 0);
        check.due("soft 13", x.cell(13, 1), 0);
        check.due("persons 13", x.cell(13, 2), 33);
        check.due("persons 0", x.cell(0, 2), 4);
        check.due("cell 15", x.cell(15, 0), UNKNOWN);
        check.due("cell -1", x.cell(-1, 0), UNKNOWN);
        check.due("cell -1, what 9", x.cell(-1, 9), UNKNOWN);
        check.due("cell most", x.cell(Integer.MAX_VALUE, 0), UNKNOWN);
        check.due("cell what -1", x.cell(0, -1), OUTSIDE);
        check.due("cell what 3", x.cell(0, 3), OUTSIDE);
    }

    private static void person() {
        EchoFines x = Check.told("plan 4 1;rock 3 0 0;at a 0 0;at b 1 0;law 1 0 5");
        check.due("cost", x.cry(0, 9, false, 0), 5);
        check.due("cost again", x.cry(0, 9, false, 0), 5);
        check.due("window", x.person(1, 0), 1);
        check.due("nowhere", x.person(2, 0), NONE);
        check.due("net of a", x.person(0, 1), 99999990);
        check.due("net of b", x.person(1, 1), 100000010);
        check.due("cries of a", x.person(0, 2), 2);
        check.due("cries of b", x.person(1, 2), 0);
        check.due("person -1", x.person(-1, 0), UNKNOWN);
        check.due("person 6", x.person(6, 0), UNKNOWN);
        check.due("person 6, what 9", x.person(6, 9), UNKNOWN);
        check.due("what -1", x.person(0, -1), OUTSIDE);
        check.due("what 3", x.person(0, 3), OUTSIDE);
    }

    private static void law() {
        EchoFines x = Check.told("law 1 2 3;law 4 5 6");
        for (int part = 0; part < 3; part++) {
            check.due("law 0", x.law(0, part), 1 + part);
            check.due("law 1", x.law(1, part), 4 + part);
            check.due("law 2", x.law(2, part), NONE);
            check.due("law most", x.law(Integer.MAX_VALUE, part), NONE);
            check.due("law -1", x.law(-1, part), OUTSIDE);
        }
        check.due("what 3", x.law(0, 3), OUTSIDE);
        check.due("what -1", x.law(0, -1), OUTSIDE);
        check.due("what 3 of none", x.law(9, 3), OUTSIDE);
        Check.write(x, "free;law 9 8 7");
        x.canyon();
        check.due("law 0 then", x.law(0, 2), 7);
        check.due("law 1 then", x.law(1, 0), NONE);
    }
}
