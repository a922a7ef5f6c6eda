import java.util.Arrays;

/** Promises 1 to 8: the bounds of the canyon, of the text and of what is told, sentence by sentence. */
public final class CanyonBoundsTest {
    private static final int NONE = -1, UNKNOWN = -2, OUTSIDE = -3, NOT = -4, FULL = -5;
    private static final int LIFT = 100000000;
    private static final Check check = new Check();

    public static void main(String[] args) {
        newObject();
        theCanyon();
        cellNumbers();
        soft();
        persons();
        fade();
        laws();
        night();
        textOf200Bytes();
        write();
        erase();
        linesAndWhatIsBetween();
        formsOfLines();
        withoutPoints();
        cellsThatThereAre();
        plan();
        rock();
        at();
        seventhLaw();
        free();
        hoursOfNight();
        letters();
        everyByteBetween();
        blanks();
        firstFault();
        numbersOfMoreDigits();
        endTooSoon();
        placeOfTheFault();
        canyon();
        canyonAsItIs();
        faultLeavesAll();
        linesInTheirOrder();
        behindTheLines();
        cell();
        person();
        law();
        check.end();
    }

    // ---- the canyon

    private static void newObject() {
        check.of(1, "Sixteen CELLS of FLOOR, PERSONS nowhere, no LAWS.");
        EchoFines x = new EchoFines();
        for (int cell = 0; cell < 16; cell++) {
            check.due("cell(" + cell + ", 0)", x.cell(cell, 0), 0);
            check.due("cell(" + cell + ", 2)", x.cell(cell, 2), 0);
        }
        check.due("cell(16, 0)", x.cell(16, 0), UNKNOWN);
        for (int person = 0; person < 6; person++) check.due("person " + person, x.person(person, 0), NONE);
        check.due("count(3)", x.count(3), 0);
        check.due("count(4)", x.count(4), 0);
        check.due("law(0, 0)", x.law(0, 0), NONE);
        // what else there could be, there is not
        for (int what : new int[] {2, 5, 6, 8, 9}) check.due("count(" + what + ")", x.count(what), 0);
        check.due("settled()", x.settled(), 0);
        check.due("back(0)", x.back(0), NOT);
        check.due("back(1)", x.back(1), NOT);
    }

    private static void theCanyon() {
        check.of(27, "6 each; 4 and 4 at first)");
        EchoFines fresh = new EchoFines();
        check.due("columns at first", fresh.count(0), 4);
        check.due("rows at first", fresh.count(1), 4);
        check.of(5, "THE CANYON has w columns and h rows (1 ..");
        for (int w = 1; w <= 6; w++) {
            for (int h = 1; h <= 6; h++) {
                EchoFines x = Check.told("plan " + w + " " + h);
                String plan = "plan " + w + " " + h + ": ";
                check.due(plan + "columns", x.count(0), w);
                check.due(plan + "rows", x.count(1), h);
                check.due(plan + "the last cell", x.cell(w * h - 1, 0), 0);
                check.due(plan + "none behind it", x.cell(w * h, 0), UNKNOWN);
            }
        }
        check.of(4, "6 each; 4 and 4 at first)");
        check.marked("plan ^0 1", "plan 1 ^0", "plan ^7 1", "plan 1 ^7", "plan ^00 1", "plan 1 ^99", "plan 1 1", "plan 6 6");
    }

    private static void cellNumbers() {
        check.of(6, "CELL w y + x,");
        for (int[] side : new int[][] {{5, 3}, {3, 5}, {6, 6}, {1, 6}, {6, 1}}) {
            int w = side[0];
            int h = side[1];
            for (int number = 0; number < w * h; number++) {
                EchoFines x = Check.told("plan " + w + " " + h + ";rock " + number % w + " " + number / w + " 7");
                for (int cell = 0; cell < w * h; cell++) {
                    check.due("plan " + w + " " + h + ", rock " + number + ", cell " + cell, x.cell(cell, 0),
                        cell == number ? 1 : 0);
                }
            }
        }
    }

    private static void soft() {
        check.of(6, "each FLOOR (as at first) or ROCK, SOFT by so many hundredths (0 .. 99).");
        for (int soft = 0; soft <= 99; soft++) {
            EchoFines x = Check.told("rock 1 2 " + soft);
            check.due("rock " + soft, x.cell(9, 0), 1);
            check.due("soft " + soft, x.cell(9, 1), soft);
            check.due("floor beside it", x.cell(8, 0), 0);
        }
        check.of(4, "SOFT by so many hundredths (0 .. 99).");
        check.marked("rock 0 0 0", "rock 0 0 99", "rock 0 0 ^100");
    }

    private static void persons() {
        check.of(7, "PERSONS are 0 .. 5, written a .. f, each at a CELL of FLOOR (its window), or nowhere (as at first);");
        for (int person = 0; person < 6; person++) {
            EchoFines x = Check.told("at " + (char) ('a' + person) + " 3 2");
            for (int other = 0; other < 6; other++) {
                check.due("at " + (char) ('a' + person) + ": person " + other, x.person(other, 0),
                    other == person ? 11 : NONE);
            }
            check.due("gone", Check.tell(x, "gone " + (char) ('a' + person)), 1);
            check.due("person that is gone", x.person(person, 0), NONE);
        }
        EchoFines fresh = new EchoFines();
        check.due("person(-1, 0)", fresh.person(-1, 0), UNKNOWN);
        check.due("person(6, 0)", fresh.person(6, 0), UNKNOWN);
        check.of(6, "more may be at one CELL.");
        EchoFines all = Check.told("at a 1 1;at b 1 1;at c 1 1;at d 1 1;at e 1 1;at f 1 1");
        check.due("six at one cell", all.cell(5, 2), 63);
        check.due("six somewhere", all.count(3), 63);
        check.due("gone d", Check.tell(all, "gone d"), 1);
        check.due("five at one cell", all.cell(5, 2), 63 - 8);
    }

    private static void fade() {
        check.of(27, "FADE is 0 .. 9 (1 at first).");
        check.due("fade at first", new EchoFines().count(7), 1);
        for (int fade = 0; fade <= 9; fade++) check.due("fade", Check.told("fade " + fade).count(7), fade);
        check.of(4, "FADE is 0 .. 9 (1 at first).");
        check.marked("fade 0", "fade 9", "fade ^10");
    }

    private static void laws() {
        check.of(8, "LAWS are rows, 6 at most: LOUD 1 .. 99, LATE 0 .. 60, COINS 1 .. 99.");
        int[][] rows = {{1, 0, 1}, {99, 60, 99}, {1, 60, 99}, {99, 0, 1}, {50, 30, 2}, {2, 1, 50}};
        EchoFines x = new EchoFines();
        for (int i = 0; i < 6; i++) {
            check.due("law", Check.tell(x, "law " + rows[i][0] + " " + rows[i][1] + " " + rows[i][2]), 1);
            check.due("laws", x.count(4), i + 1);
        }
        for (int i = 0; i < 6; i++) {
            for (int what = 0; what < 3; what++) check.due("law " + i, x.law(i, what), rows[i][what]);
        }
        check.due("law 6", x.law(6, 0), NONE);
        check.markedIn(x, "^law 1 1 1");
        check.of(4, "LOUD 1 .. 99, LATE 0 .. 60, COINS 1 .. 99.");
        check.marked("law ^0 1 1", "law 1 0 1", "law 99 60 99", "law ^100 1 1", "law 1 ^61 1", "law 1 ^99 1", "law 1 1 ^0",
            "law 1 1 ^100");
    }

    private static void night() {
        check.of(27, "NIGHT is from an HOUR to an HOUR (0 .. 23 each; none at first),");
        check.due("hours at first", new EchoFines().count(9), 0);
        check.due("night 0 23 1", Check.told("night 0 23 1").count(9), (1 << 23) - 1);
        check.due("night 23 0 1", Check.told("night 23 0 1").count(9), 1 << 23);
        check.marked("night ^24 0 1", "night 0 ^24 1", "night 23 23 1", "night 0 0 1", "night ^99 0 1", "night 0 ^99 1");
        check.of(27, "fines are so many times as much in it (1 .. 9; 1 at first).");
        check.due("times at first", new EchoFines().count(10), 1);
        for (int n = 1; n <= 9; n++) {
            EchoFines x = Check.told("plan 5 1;rock 4 0 0;at a 0 0;at b 2 0;law 1 0 5;night 7 8 " + n);
            check.due("times", x.count(10), n);
            check.due("fine in the night", x.costs(0, 20, false, 7), 5 * n);
            check.due("fine by day", x.costs(0, 20, false, 8), 5);
        }
        check.marked("night 1 2 ^0", "night 1 2 ^10", "night 1 2 1", "night 1 2 9");
    }

    // ---- the text

    private static void textOf200Bytes() {
        check.of(2, "THE TEXT is a row of bytes, 200 at most:");
        for (int n = 1; n <= 8; n++) {
            EchoFines x = new EchoFines();
            int had = 0;
            for (; had + n <= 200; had += n) check.due("write(.., " + n + ")", x.write(' ', n), had + n);
            check.due("write(.., " + n + ") at " + had, x.write(' ', n), FULL);
            check.due("bytes", x.count(8), had);
        }
        // 193 bytes and 8 are too many, 192 and 8 are not
        EchoFines y = new EchoFines();
        for (int i = 0; i < 24; i++) y.write(0x2020202020202020L, 8);
        check.due("one byte more", y.write(' ', 1), 193);
        check.due("eight are too many", y.write(0, 8), FULL);
        check.due("seven are not", y.write(0x3920656461L << 16 | 'f' << 8 | ' ', 7), 200);
        check.due("the last bytes count", y.canyon(), 1);
        check.due("fade 9", y.count(7), 9);
        // the 200th byte is looked at
        EchoFines z = new EchoFines();
        Check.write(z, "fade 2" + " ".repeat(193) + ".");
        check.due("fault at the 200th byte", z.fault(), 199);
    }

    private static void write() {
        check.of(2, "n (1 .. 8) bytes more of THE TEXT, byte i being bytes >> 8 i & 255: how many it has.");
        String text = "rock 1 2 34;at f 0 3;law 56 7 89;night 22 3 4;fade 5";
        for (int n = 1; n <= 8; n++) {
            EchoFines x = new EchoFines();
            for (int from = 0; from < text.length(); from += n) {
                int many = Math.min(n, text.length() - from);
                // bytes above the n-th are not looked at
                long above = many == 8 ? 0 : -1L << 8 * many;
                check.due("write", x.write(Check.packed(text, from, many) | above, many), from + many);
            }
            check.due("lines", x.canyon(), 5);
            check.due("soft", x.cell(9, 1), 34);
            check.due("f", x.person(5, 0), 12);
            check.due("coins", x.law(0, 2), 89);
            check.due("times", x.count(10), 4);
            check.due("fade", x.count(7), 5);
        }
        // bytes of 128 and above are bytes of their own
        for (int place : new int[] {0, 4, 5}) {
            StringBuilder odd = new StringBuilder("fade 3");
            odd.setCharAt(place, (char) (odd.charAt(place) | 128));
            check.fault(odd.toString(), place);
        }
        EchoFines y = new EchoFines();
        check.due("byte 7 is the topmost", y.write(Check.packed("  fade 3", 0, 8), 8), 8);
        check.due("fade 3 is told", y.fault(), NONE);
        check.due("byte 7, with the sign", y.write(0x80L << 56 | Check.packed(";fade 4", 0, 7), 8), 16);
        check.due("is a byte too", y.fault(), 15);
    }

    private static void erase() {
        check.of(3, "THE TEXT is empty: how many bytes it had.");
        EchoFines x = new EchoFines();
        check.due("erase() of nothing", x.erase(), 0);
        x.write('x', 1);
        check.due("erase() of one byte", x.erase(), 1);
        check.due("bytes", x.count(8), 0);
        check.due("fault() of nothing", x.fault(), 0);
        Check.write(x, ".".repeat(200));
        check.due("erase() of a full text", x.erase(), 200);
        check.due("there is room again", Check.write(x, " ".repeat(194) + "fade 2"), 200);
        check.due("nothing of the old bytes is left", x.fault(), NONE);
        check.due("erase()", x.erase(), 200);
        check.due("erase() again", x.erase(), 0);
        check.due("erased is not done", x.count(7), 1);
    }

    private static void linesAndWhatIsBetween() {
        check.of(5, "LINES with ; (59) between, 10 at most;");
        for (int lines = 1; lines <= 10; lines++) {
            check.due(lines + " lines", Check.tell(new EchoFines(), "fade 2" + ";fade 3".repeat(lines - 1)), lines);
        }
        check.marked("free" + ";free".repeat(9), "free" + ";free".repeat(9) + "^;free", "free" + ";free".repeat(9) + "^;");
        check.marked("fade 1^:fade 2", "fade 1^<fade 2", "fade 1^,fade 2", "fade 1^\nfade 2", "fade 1 ^fade 2");
        check.marked("^;fade 1", "fade 1;^;fade 2", "fade 1;^", "fade 1;  ^");
        // an empty text has no line, and that is too few
        check.marked("^", "   ^");
    }

    private static void formsOfLines() {
        check.of(4, "each is one of: plan W H. rock X Y S. floor X Y. at T X Y. gone T. law L D C. free. night A B N. fade N.");
        String[] forms = {"plan 2 3", "rock 2 3 1", "floor 2 3", "at b 2 3", "gone b", "law 2 3 1", "free", "night 2 3 1",
            "fade 2"};
        for (String form : forms) {
            check.marked(form, form + " ^2", form + " ^b", form + " ^" + form, form + ";" + form, form + ";^");
            String word = form.split(" ")[0];
            check.marked("^" + word + "s" + form.substring(word.length()), "^" + form.substring(1));
            check.marked("^" + word.substring(0, word.length() - 1) + form.substring(word.length()));
            check.marked("^" + form.toUpperCase().charAt(0) + form.substring(1), "^" + word.charAt(0) + " " + form.substring(1));
            formWithPartsAmiss(form);
        }
        check.marked("^a", "^echo", "^2 3", "^plans 1 1", "^done", "^z");
    }

    /** Each part left out from there on, and one of another kind put for it. */
    private static void formWithPartsAmiss(String form) {
        String[] parts = form.split(" ");
        for (int i = 1; i < parts.length; i++) {
            String ahead = String.join(" ", Arrays.copyOf(parts, i));
            boolean letter = parts[i].equals("b");
            check.marked(ahead + "^", ahead + "^;fade 1", ahead + " ^" + (letter ? "2" : "b"), ahead + " ^-", ahead + " ^free");
            check.marked(ahead + " ^" + parts[i] + parts[i] + parts[i]);
        }
    }

    private static void withoutPoints() {
        check.of(4, "(As written here, without points;");
        check.marked("plan 1 1^.", "free^.", "gone a^.", "fade 1^.;fade 2", "fade ^.1", "fade 1;^.");
    }

    private static void cellsThatThereAre() {
        check.of(4, "X, Y of a CELL that there is behind the LINES ahead;");
        for (String line : new String[] {"rock %s %s 5", "floor %s %s", "at c %s %s"}) {
            for (int w = 1; w <= 6; w++) {
                int h = 7 - w;
                String plan = "plan " + w + " " + h + ";";
                check.marked(plan + String.format(line, w - 1, h - 1), plan + String.format(line, 0, 0));
                check.marked(plan + String.format(line, "^" + w, 0), plan + String.format(line, 0, "^" + h));
                check.marked(plan + String.format(line, "^" + w, h), plan + String.format(line, "^99", 0));
            }
            // by the canyon as it is, if no plan is ahead; and by the last plan ahead, not by one behind
            check.marked(String.format(line, 3, 3), String.format(line, "^4", 3), String.format(line, 3, "^4"));
            check.marked(String.format(line, "^4", 3) + ";plan 6 6", "plan 6 6;plan 1 1;" + String.format(line, "^1", 0));
            check.markedIn(Check.told("plan 2 6"), String.format(line, 1, 5));
            check.markedIn(Check.told("plan 2 6"), String.format(line, "^2", 5));
        }
    }

    private static void plan() {
        check.of(5, "plan: all FLOOR, PERSONS nowhere;");
        EchoFines x = Check.told("rock 0 0 9;rock 3 3 9;at a 1 1;at f 2 2;law 5 6 7;night 1 3 4;fade 8");
        check.due("plan as it was", Check.tell(x, "plan 4 4"), 1);
        check.due("rocks", x.count(2), 0);
        check.due("soft", x.cell(0, 1), 0);
        check.due("persons", x.count(3), 0);
        check.due("a", x.person(0, 0), NONE);
        check.due("laws stay", x.law(0, 2), 7);
        check.due("hours stay", x.count(9), 6);
        check.due("times stay", x.count(10), 4);
        check.due("fade stays", x.count(7), 8);
        // a rock of a greater canyon does not come again with a plan for one
        EchoFines y = Check.told("plan 6 6;rock 5 5 9", "plan 1 1", "plan 6 6");
        check.due("no rock comes again", y.count(2), 0);
        check.due("cell 35", y.cell(35, 0), 0);
    }

    private static void rock() {
        check.of(5, "rock: PERSONS there are nowhere then;");
        EchoFines x = Check.told("at a 1 1;at b 1 1;at c 2 1;at f 1 1");
        check.due("rock", Check.tell(x, "rock 1 1 3"), 1);
        check.due("only c is somewhere", x.count(3), 4);
        check.due("a", x.person(0, 0), NONE);
        check.due("c", x.person(2, 0), 6);
        check.due("rock upon rock", Check.tell(x, "rock 1 1 4"), 1);
        check.due("soft anew", x.cell(5, 1), 4);
        check.due("floor again", Check.tell(x, "floor 1 1"), 1);
        check.due("they stay nowhere", x.count(3), 4);
        check.due("floor upon floor", Check.tell(x, "floor 2 1"), 1);
        check.due("c stays", x.person(2, 0), 6);
    }

    private static void at() {
        check.of(4, "at: a PERSON is at a CELL of FLOOR, behind the LINES ahead (else at its Y);");
        check.marked("rock 3 0 0;at a 3 ^0", "rock 3 0 99;at f 3 ^00", "rock 3 0 1;floor 3 0;at a 3 0",
            "rock 3 0 1;plan 4 4;at a 3 0", "at a 3 0;rock 3 0 1;at b 3 ^0", "at a 3 0;rock 3 0 1", "rock 3 0 1;at a 2 0");
        EchoFines x = Check.told("rock 2 1 5");
        check.markedIn(x, "at a 2 ^1");
        check.markedIn(x, "at a 1 2");
        check.markedIn(x, "floor 2 1;at a 2 1");
        check.of(7, "at: a PERSON is at a CELL of FLOOR,");
        check.due("at again moves", Check.tell(x, "at a 0 0;at a 3 1;at b 3 1"), 3);
        check.due("a", x.person(0, 0), 7);
        check.due("a is not there any more", x.cell(0, 2), 0);
        check.due("both", x.cell(7, 2), 3);
    }

    private static void seventhLaw() {
        check.of(4, "law: one more, a seventh cannot stand there (at its word);");
        String six = "law 1 1 1;".repeat(6);
        check.marked(six + "^law 1 1 1", six + "^law", six + "^law 0 x", six + "fade 1;^law 1 1 1", six + "free;law 1 1 1");
        check.marked("free;" + six + "^law 1 1 1", "law 1 1 1;free;" + six + "free", six.substring(10) + "law 1 1 1");
        EchoFines x = Check.told("law 1 1 1;law 1 1 1;law 1 1 1;law 1 1 1");
        check.markedIn(x, "law 2 2 2;law 2 2 2");
        check.markedIn(x, "law 2 2 2;law 2 2 2;^law 2 2 2");
        check.markedIn(x, "plan 1 1;law 2 2 2;law 2 2 2;^law 2 2 2");
        check.due("laws stay as they are", x.count(4), 4);
    }

    private static void free() {
        check.of(8, "free: no LAWS;");
        EchoFines x = Check.told("law 1 1 1;law 2 2 2", "free");
        check.due("laws", x.count(4), 0);
        check.due("law 0", x.law(0, 0), NONE);
        check.due("free of none", Check.tell(x, "free"), 1);
        check.due("law behind free", Check.tell(x, "law 3 3 3;free;law 4 5 6"), 3);
        check.due("one law", x.count(4), 1);
        check.due("its loud", x.law(0, 0), 4);
        check.due("none behind it", x.law(1, 0), NONE);
    }

    private static void hoursOfNight() {
        check.of(27, "night: HOURS A up to B less 1, as one goes on from A to B (A itself: none);");
        for (int a = 0; a < 24; a++) {
            for (int b = 0; b < 24; b++) {
                int bits = 0;
                for (int hour = a; hour % 24 != b; hour++) bits |= 1 << hour % 24;
                EchoFines x = Check.told("night 3 9 2", "night " + a + " " + b + " 5");
                check.due("night " + a + " " + b, x.count(9), bits);
            }
        }
    }

    private static void letters() {
        check.of(4, "T a letter a .. f;");
        for (int sign = 0; sign < 256; sign++) {
            boolean good = sign >= 'a' && sign <= 'f';
            // a blank is no token, so that the fault is what comes behind it
            check.fault("gone " + (char) sign, good ? NONE : sign == ' ' ? 6 : 5);
            check.fault("at " + (char) sign + " 0 0", good ? NONE : sign == ' ' ? 5 : 3);
        }
        check.marked("gone ^ab", "gone ^ff", "at ^aa 0 0");
    }

    private static void everyByteBetween() {
        check.of(4, "small letters a .. z, numbers of 1 or 2 digits, blanks (32) between.)");
        for (int sign = 0; sign < 256; sign++) {
            boolean letter = sign >= 'a' && sign <= 'z';
            boolean digit = sign >= '0' && sign <= '9';
            // fade?3: a longer word, a number of two digits, a blank, or a byte that cannot stand there
            int want = letter ? 0 : digit ? sign == '0' ? NONE : 4 : sign == ' ' ? NONE : 4;
            check.fault("fade" + (char) sign + "3", want);
            // fade 3?fade 4: only ; may stand between
            check.fault("fade 0" + (char) sign + "fade 4", sign == ';' ? NONE : digit || sign == ' ' ? 7 : 6);
        }
    }

    private static void blanks() {
        check.of(4, "blanks (32) between.)");
        check.marked("  fade  3", "fade 3  ", "fade 3 ; fade 4", "   rock   1   2   3   ;   free   ", "fade 1 ^2",
            "^pla n 1 1", "rock 1 2 3  ^4", "fade 1 ^0");
        // where letters and digits meet, a row ends without a blank too
        check.marked("fade3", "plan2 3", "law1 2 3", "at b2 3", "^atb 2 3");
        check.marked("fade^\t3", "fade 3^\r", "fade^\0003");
    }

    private static void firstFault() {
        check.of(4, "A FAULT is at the first TOKEN (a row of small letters, a row of digits, any other byte) "
            + "that cannot stand there");
        check.marked("plan ^0 0;rock 9 9 100", "plan 1 ^0;oops", "rock ^9 9 100", "rock 0 ^9 100", "at ^g 9 9", "at a ^9 9",
            "law ^0 61 0", "law 1 ^61 0", "law 1 60 ^0", "night ^24 24 0", "night 0 ^24 0", "night 0 0 ^0");
        check.marked("fade 1;fade 2;^faded 3;fade 10", "fade 1;fade ^10;fade 11", "^fadefade 1", "fade ^..", "^.fade 1");
        check.marked("fade 1^..", "fade 1 ^111", "fade ^111", "fade ^1000000000", "fade ^4294967297",
            "fade ^18446744073709551617");
    }

    private static void numbersOfMoreDigits() {
        check.of(4, "(a number out of its bounds, of more digits, also)");
        check.marked("fade 01", "fade 00", "fade ^001", "fade ^000", "plan 06 01", "plan ^006 1", "plan 6 ^001", "rock 00 00 00",
            "rock ^000 0 0", "rock 0 ^000 0", "rock 0 0 ^000", "floor ^000 0", "at a 0 ^000", "law 01 00 01", "law ^001 0 1",
            "law 1 ^000 1", "law 1 0 ^001", "night 00 00 01", "night ^000 0 1", "night 0 ^000 1", "night 0 0 ^001");
    }

    private static void endTooSoon() {
        check.of(4, "or at the end, if it comes too soon.");
        check.marked("^", "plan^", "plan 1^", "plan 1 ^", "rock 1 1^", "at^", "at a^", "at a 0^", "gone^", "law 1 1^",
            "night 1 2^", "fade^", "fade  ^", "floor 1^", "free;^", "free;law^", "free; ^");
    }

    private static void placeOfTheFault() {
        check.of(4, "The place of the FAULT (the byte with which the TOKEN begins, or the length); NONE.");
        check.marked("fade ^12345", "fade    ^12", "^nonsense", "free ;  ^freedom", "plan 1 1", "gone ^abcdef");
        EchoFines x = new EchoFines();
        check.due("fault() of no text", x.fault(), 0);
        Check.write(x, "fade");
        check.due("fault() at the length", x.fault(), 4);
        check.due("fault() again", x.fault(), 4);
        Check.write(x, " 3");
        check.due("and no fault then", x.fault(), NONE);
        check.due("fault() does no line", x.count(7), 1);
        check.due("fault() leaves the text", x.count(8), 6);
        Check.write(x, "3");
        check.due("33 is too much", x.fault(), 5);
        EchoFines full = new EchoFines();
        Check.write(full, " ".repeat(196) + "fade");
        check.due("fault() at the length of a full text", full.fault(), 200);
    }

    private static void canyon() {
        check.of(5, "THE TEXT's LINES are done, and it is empty then: how many there were.");
        EchoFines x = new EchoFines();
        Check.write(x, "fade 4;free");
        check.due("canyon()", x.canyon(), 2);
        check.due("fade", x.count(7), 4);
        check.due("bytes", x.count(8), 0);
        check.due("erase()", x.erase(), 0);
        check.of(5, "NOT: it has a FAULT.");
        check.due("canyon() of no text", x.canyon(), NOT);
        Check.write(x, "fade 5;");
        check.due("canyon() of a fault at the end", x.canyon(), NOT);
        check.due("the text stays", x.count(8), 7);
        check.due("fade stays", x.count(7), 4);
        Check.write(x, "free");
        check.due("canyon() of the text made good", x.canyon(), 2);
        check.due("fade then", x.count(7), 5);
    }

    /** Rocks fall and come back by other calls than texts: a text is read and done on what there is then. */
    private static void canyonAsItIs() {
        check.of(4, "X, Y of a CELL that there is behind the LINES ahead;");
        EchoFines x = Check.told("plan 5 1;rock 4 0 30;at a 0 0;at b 2 0");
        x.keep(0);
        x.fall(1);
        check.markedIn(x, "at c 1 ^0");
        x.fall(4);
        check.markedIn(x, "at c 4 0");
        x.back(0);
        check.markedIn(x, "at c 1 0");
        check.markedIn(x, "at c 4 ^0");
        check.due("changed", x.changed(1, 0, 9, false), 3);
        check.markedIn(x, "at c 1 0");
        check.of(5, "THE TEXT's LINES are done,");
        x.fall(1);
        x.fall(0);
        check.due("canyon()", Check.tell(x, "fade 2"), 1);
        check.due("the rock that fell", x.cell(1, 0), 1);
        check.due("a is nowhere", x.person(0, 0), NONE);
        check.due("b is there", x.person(1, 0), 2);
        x.keep(1);
        x.fall(4);
        x.back(1);
        check.due("canyon() behind back()", Check.tell(x, "fade 3"), 1);
        check.due("soft as it was", x.cell(4, 1), 30);
        check.due("changed", x.changed(4, 3, 9, false), 2);
        check.due("canyon() behind changed()", Check.tell(x, "fade 4"), 1);
        check.due("soft as it was", x.cell(4, 1), 30);
        Check.write(x, "plan 2 2;law 1 1 1;night 1 2 3;fade 9;x");
        check.due("a fault", x.fault(), 38);
        x.erase();
        check.due("canyon() behind fault()", Check.tell(x, "gone f"), 1);
        check.due("columns", x.count(0), 5);
        check.due("laws", x.count(4), 0);
        check.due("hours", x.count(9), 0);
        check.due("fade", x.count(7), 4);
    }

    private static void faultLeavesAll() {
        check.of(5, "NOT: it has a FAULT.");
        EchoFines x = Check.told("plan 5 1;rock 4 0 30;at a 0 0;at b 2 0;law 1 0 5;night 2 4 3;fade 2");
        check.due("cry", x.cry(0, 20, false, 12), 5);
        x.note(1, 9);
        x.keep(1);
        String text = "plan 2 2;rock 0 0 1;at c 1 1;free;law 9 9 9;night 1 9 9;fade 9;gone a;floor 0 0;x";
        Check.write(x, text);
        check.due("canyon()", x.canyon(), NOT);
        int[] counts = {5, 1, 1, 3, 1, 1, 1, 2, text.length(), 12, 3};
        for (int what = 0; what < counts.length; what++) check.due("count(" + what + ")", x.count(what), counts[what]);
        check.due("soft", x.cell(4, 1), 30);
        check.due("owed", x.owed(0, 1), LIFT + 5);
        check.due("law", x.law(0, 2), 5);
        check.due("back(1)", x.back(1), 1);
    }

    private static void linesInTheirOrder() {
        check.of(5, "LINES are done in their order.");
        EchoFines x = Check.told("fade 3;fade 5;night 1 2 3;night 4 5 6;rock 0 0 1;floor 0 0;floor 1 0;rock 1 0 7;"
            + "at a 2 0;at a 3 0");
        check.due("fade", x.count(7), 5);
        check.due("hours", x.count(9), 1 << 4);
        check.due("times", x.count(10), 6);
        check.due("cell 0", x.cell(0, 0), 0);
        check.due("cell 1", x.cell(1, 1), 7);
        check.due("a", x.person(0, 0), 3);
        EchoFines y = Check.told("law 1 2 3;law 4 5 6;gone b;at b 0 0;at c 1 1;gone c;at d 2 2;plan 4 4");
        check.due("law 0", y.law(0, 0), 1);
        check.due("law 1", y.law(1, 0), 4);
        check.due("plan last: nobody is anywhere", y.count(3), 0);
        EchoFines z = Check.told("plan 3 3;plan 2 5;at b 0 4");
        check.due("columns", z.count(0), 2);
        check.due("b", z.person(1, 0), 8);
    }

    private static void behindTheLines() {
        check.of(5, "Behind them nobody owes anything, there are no CRIES, no NOTES, nothing is kept.");
        for (String text : new String[] {"fade 1", "free", "gone f", "plan 5 1"}) {
            EchoFines x = Check.told("plan 5 1;rock 4 0 0;at a 0 0;at b 2 0;law 1 0 5");
            check.due("cry", x.cry(0, 20, false, 0), 5);
            check.due("cry", x.cry(1, 20, false, 0), 5);
            check.due("cry", x.cry(1, 20, false, 0), 5);
            x.note(0, 5);
            x.keep(0);
            x.keep(1);
            check.due(text, Check.tell(x, text), 1);
            check.due("owed(1, 0)", x.owed(1, 0), LIFT);
            check.due("owed(0, 1)", x.owed(0, 1), LIFT);
            check.due("net", x.person(0, 1), LIFT);
            check.due("settled()", x.settled(), 0);
            check.due("cries", x.count(5), 0);
            check.due("cries of b", x.person(1, 2), 0);
            check.due("living(1)", x.living(1), 0);
            check.due("notes", x.count(6), 0);
            check.due("forget()", x.forget(), 0);
            check.due("back(0)", x.back(0), NOT);
            check.due("back(1)", x.back(1), NOT);
        }
    }

    // ---- what is told of cells, persons, laws

    private static void cell() {
        check.of(6, "Of a CELL: 1 ROCK, 0 FLOOR (what 0), SOFT (1; 0 of FLOOR), PERSONS there, by bits (2).");
        EchoFines x = Check.told("plan 6 6;rock 5 5 99;rock 0 0 0;at a 5 4;at f 5 4");
        int[][] rows = {{35, 1, 99, 0}, {0, 1, 0, 0}, {29, 0, 0, 33}, {34, 0, 0, 0}};
        for (int[] row : rows) {
            for (int what = 0; what < 3; what++) check.due("cell " + row[0], x.cell(row[0], what), row[what + 1]);
        }
        check.due("fall(35)", x.fall(35), 0);
        check.due("soft of floor that was rock", x.cell(35, 1), 0);
    }

    private static void person() {
        check.of(7, "Of a PERSON: its CELL (what 0; NONE), NET and 100000000 (1), how many CRIES it made (2).");
        EchoFines x = Check.told("plan 5 1;rock 4 0 0;at a 0 0;at f 2 0;law 1 0 5");
        check.due("its cell", x.person(0, 0), 0);
        check.due("nowhere", x.person(1, 0), NONE);
        check.due("net of nothing", x.person(0, 1), LIFT);
        check.due("no cries", x.person(0, 2), 0);
        check.due("cry", x.cry(0, 20, false, 0), 5);
        check.due("a net below nothing", x.person(0, 1), LIFT - 5);
        check.due("a net above nothing", x.person(5, 1), LIFT + 5);
        check.due("cries", x.person(0, 2), 1);
        check.due("cries of f", x.person(5, 2), 0);
        check.due("fall(0)", x.fall(0), 1);
        check.due("nowhere now", x.person(0, 0), NONE);
        check.due("its net stays", x.person(0, 1), LIFT - 5);
        check.due("its cries stay", x.person(0, 2), 1);
    }

    private static void law() {
        check.of(8, "Of a LAW: LOUD (what 0), LATE (1), COINS (2); NONE: there is none such.");
        EchoFines x = Check.told("law 11 12 13;law 21 22 23");
        for (int what = 0; what < 3; what++) {
            check.due("law(0, " + what + ")", x.law(0, what), 11 + what);
            check.due("law(1, " + what + ")", x.law(1, what), 21 + what);
            for (int none : new int[] {2, 5, 6, 7, 100, Integer.MAX_VALUE}) check.due("law " + none, x.law(none, what), NONE);
        }
        check.of(8, "OUTSIDE: law below 0, what.");
        for (int law : new int[] {-1, Integer.MIN_VALUE}) check.due("law(" + law + ", 0)", x.law(law, 0), OUTSIDE);
        for (int what : new int[] {-1, 3, Integer.MIN_VALUE, Integer.MAX_VALUE}) {
            check.due("law(0, " + what + ")", x.law(0, what), OUTSIDE);
            check.due("what ahead of none such", x.law(6, what), OUTSIDE);
        }
    }
}
