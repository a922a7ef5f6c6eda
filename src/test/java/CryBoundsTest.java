import java.util.LinkedHashSet;
import java.util.Set;

/** Promises 9 to 16: the bounds of a cry, its sounds, its fines and of what is owed, sentence by sentence. */
public final class CryBoundsTest {
    private static final int NONE = -1, OUTSIDE = -3, NOT = -4, FULL = -5;
    private static final int LIFT = 100000000;
    /** Ways as columns and rows on. */
    private static final int[][] ON = {{0, -1}, {1, -1}, {1, 0}, {1, 1}, {0, 1}, {-1, 1}, {-1, 0}, {-1, -1}};
    /** From 1 each tick brings one sound, by way 2 in odd ticks and by way 6 in even ones: to 2, 2, 1, 1, 2, 2, .. */
    private static final String PAIR = "plan 4 1;rock 0 0 0;rock 3 0 0;fade 0";
    /** A cry at 0 comes back to 2 in tick 5, less 4, and to 0 in tick 7, less 6; to 3 it comes but once, no echo. */
    private static final String WALL = "plan 5 1;rock 4 0 0";
    private static final Check check = new Check();

    public static void main(String[] args) {
        loudOfACry();
        eightWays();
        eightWaysByEveryCall();
        sixtyTicks();
        theSixtiethTick();
        whereNoCellIs();
        thrownBackInThisTick();
        lessBySoft();
        straightWaysTurnRound();
        slantingWaysTurn();
        lessByFade();
        goneBelowOne();
        soundsComeByGoing();
        eachOtherPerson();
        firstLaw();
        timesOfNight();
        nothingWithoutALaw();
        cry();
        twentyCries();
        costs();
        sounds();
        order();
        led();
        whisper();
        owed();
        net();
        pay();
        payNoMoreThanOwed();
        settled();
        settledWhereDebtsGoRound();
        greatestSums();
        check.end();
    }

    private static String at(char person, int cell, int w) {
        return ";at " + person + " " + cell % w + " " + cell / w;
    }

    private static String rock(int x, int y) {
        return ";rock " + x + " " + y + " 0";
    }

    // ---- how a cry goes

    private static void loudOfACry() {
        check.of(11, "A CRY at a CELL of FLOOR, LOUD l (1 .. 99), HIGH or not,");
        EchoFines x = Check.told("plan 2 1;fade 0");
        for (int loud = 1; loud <= 99; loud++) {
            check.due("low " + loud, x.sounds(0, loud, false, 1, 3), loud);
            check.due("high " + loud, x.sounds(1, loud, true, 0, 3), loud);
        }
    }

    private static void eightWays() {
        check.of(12, "goes 8 WAYS: 0 one row less, 1 that and a column more, 2 a column more, and so on, round "
            + "(7 a row and a column less).");
        for (int way = 0; way < 8; way++) {
            for (int far = 1; far <= 2; far++) {
                int cell = 12 + far * (ON[way][0] + 5 * ON[way][1]);
                EchoFines x = Check.told("plan 5 5" + at('c', cell, 5));
                check.due("way " + way + ", who", x.led(12, 9, false, 0, 0), 2);
                check.due("way " + way + ", tick", x.led(12, 9, false, 0, 1), far);
                check.due("way " + way, x.led(12, 9, false, 0, 4), way);
                check.due("no other way", x.led(12, 9, false, 1, 4), NONE);
            }
        }
    }

    private static void eightWaysByEveryCall() {
        for (int way = 0; way < 8; way++) {
            int step = ON[way][0] + 5 * ON[way][1];
            String to = at('b', 12 + step, 5);
            check.of(13, "goes 8 WAYS:");
            EchoFines x = Check.told("plan 5 5;at a 2 2" + to);
            check.due("whisper, way " + way, x.whisper(12, 2, false), 3);
            check.of(11, "goes 8 WAYS:");
            int[] sounds = {1, 0, 1, 8};
            for (int what = 0; what < 4; what++) {
                check.due("sounds, way " + way, x.sounds(12, 9, false, 12 + step, what), sounds[what]);
            }
            check.of(22, "goes 8 WAYS:");
            x.note(1, 50);
            check.due("who, way " + way, x.who(0, 9, false, 2), 1);
            check.of(10, "goes 8 WAYS:");
            int rockCell = 12 + 2 * step;
            EchoFines y = Check.told("plan 5 5;law 1 0 5;at a 2 2;at c 2 2" + rock(rockCell % 5, rockCell / 5));
            check.due("costs, way " + way, y.costs(0, 9, false, 0), 5);
            check.due("cry, way " + way, y.cry(0, 9, false, 0), 5);
            check.of(19, "goes 8 WAYS:");
            check.due("changed to floor, way " + way, y.changed(rockCell, 12, 9, false), 5);
            y.fall(rockCell);
            check.due("changed to rock, way " + way, y.changed(rockCell, 12, 9, false), 5);
            // the same sound by the way across from it is one more
            y.fall(12 - 2 * step);
            check.due("changed to two rocks, way " + way, y.changed(rockCell, 12, 4, false), 5);
        }
    }

    private static void sixtyTicks() {
        check.of(12, "Each goes on by TICKS 1, 2, .. (60 at most):");
        EchoFines x = Check.told(PAIR + ";at a 1 0;at b 2 0");
        for (int i = 0; i < 60; i++) {
            check.due("tick of sound " + i, x.led(1, 1, false, i, 1), i + 1);
            check.due("who hears sound " + i, x.led(1, 1, false, i, 0), i % 4 < 2 ? 1 : 0);
            check.due("way of sound " + i, x.led(1, 1, false, i, 4), i % 2 == 0 ? 2 : 6);
        }
        check.due("none behind the sixtieth", x.led(1, 99, false, 60, 1), NONE);
        check.of(11, "Each goes on by TICKS 1, 2, .. (60 at most):");
        check.due("sounds that come to 1", x.sounds(1, 1, false, 1, 0), 30);
        check.due("sounds that come to 2", x.sounds(1, 1, false, 2, 0), 30);
        check.due("echoes that come to 2", x.sounds(1, 1, false, 2, 1), 29);
    }

    private static void theSixtiethTick() {
        check.of(10, "Each goes on by TICKS 1, 2, .. (60 at most):");
        check.due("fined in tick 60", Check.told(PAIR + ";at a 1 0;at b 1 0;law 1 60 9").costs(0, 1, false, 0), 9);
        check.due("fined in ticks 59, 60", Check.told(PAIR + ";at a 1 0;at b 1 0;law 1 59 9").costs(0, 1, false, 0), 18);
        check.due("at 2 the last is in 58", Check.told(PAIR + ";at a 1 0;at b 2 0;law 1 58 9").costs(0, 1, false, 0), 9);
        check.due("at 2 none is in 59", Check.told(PAIR + ";at a 1 0;at b 2 0;law 1 59 9").costs(0, 1, false, 0), 0);
        check.of(23, "Each goes on by TICKS 1, 2, .. (60 at most):");
        EchoFines x = Check.told(PAIR + ";at a 1 0;at b 1 0;law 1 60 9");
        check.due("cry", x.cry(0, 1, false, 0), 9);
        check.due("living(0)", x.living(0), 1);
        check.due("living(1)", x.living(1), 9);
        check.of(22, "Each goes on by TICKS 1, 2, .. (60 at most):");
        x.note(1, 61);
        x.note(1, 4);
        check.due("cried in minute 1, heard in ticks 3 and 60", x.who(0, 1, false, 2), 1);
        x.forget();
        x.note(1, 61);
        x.note(1, 3);
        check.due("ticks 3 and 61", x.who(0, 1, false, 2), 0);
    }

    private static void whereNoCellIs() {
        check.of(11, "if what lies ahead is no CELL it is gone;");
        for (int[] side : new int[][] {{6, 6}, {5, 3}, {3, 5}, {1, 6}, {6, 1}, {1, 1}, {2, 2}}) {
            int w = side[0];
            int h = side[1];
            for (int from = 0; from < w * h; from++) {
                EchoFines x = Check.told("plan " + w + " " + h + ";fade 0");
                for (int to = 0; to < w * h; to++) {
                    int dx = Math.abs(to % w - from % w);
                    int dy = Math.abs(to / w - from / w);
                    boolean onAWay = to != from && (dx == 0 || dy == 0 || dx == dy);
                    String told = "plan " + w + " " + h + ", " + from + " to " + to;
                    check.due(told, x.sounds(from, 9, false, to, 0), onAWay ? 1 : 0);
                    check.due(told + ", tick", x.sounds(from, 9, false, to, 2), onAWay ? Math.max(dx, dy) : NONE);
                }
            }
        }
    }

    private static void thrownBackInThisTick() {
        check.of(12, "if that is ROCK it is THROWN BACK in this TICK, it stays at its CELL:");
        // rock right beside it: thrown back in tick 1, at a in tick 2
        EchoFines x = Check.told("plan 3 1;rock 2 0 0;at a 0 0;at b 1 0");
        check.due("straight to a, tick", x.led(1, 9, false, 0, 1), 1);
        check.due("echo to a, tick", x.led(1, 9, false, 1, 1), 2);
        check.due("echo to a, loud: fade once", x.led(1, 9, false, 1, 2), 8);
        check.due("echo to a, thrown back", x.led(1, 9, false, 1, 3), 1);
        check.due("staying is not coming to b", x.led(1, 9, false, 2, 0), NONE);
        check.due("nor is it a sound", x.sounds(1, 9, false, 1, 0), 0);
        // between two rocks it is thrown back for ever and comes nowhere
        EchoFines pit = Check.told("plan 3 1;rock 0 0 0;rock 2 0 0;at a 1 0;fade 0");
        check.due("no sound in a pit", pit.sounds(1, 99, false, 1, 0), 0);
        check.due("but who is there hears it", pit.whisper(1, 99, false), 1);
    }

    private static void lessBySoft() {
        check.of(11, "LOUD is less by SOFT hundredths of it (HIGH: twice that, 100 at most; what it is less, cut),");
        for (int soft = 0; soft <= 99; soft++) {
            EchoFines x = Check.told("plan 3 1;rock 2 0 " + soft + ";fade 0");
            for (int loud = 1; loud <= 99; loud++) {
                int low = loud - loud * soft / 100;
                int high = soft >= 50 ? 0 : loud - 2 * loud * soft / 100;
                check.due("low, soft " + soft + ", loud " + loud, x.sounds(0, loud, false, 0, 3), low < 1 ? NONE : low);
                check.due("high, soft " + soft + ", loud " + loud, x.sounds(0, loud, true, 0, 3), high < 1 ? NONE : high);
            }
        }
        // each time of what is left: 99, less 49 (of 49.5) is 50, less 25 is 25
        EchoFines y = Check.told("plan 4 1;rock 0 0 50;rock 3 0 50;fade 0;at a 1 0");
        check.due("once", y.led(1, 99, false, 0, 2), 50);
        check.due("twice", y.led(1, 99, false, 1, 2), 25);
    }

    private static void straightWaysTurnRound() {
        check.of(11, "and it turns round: WAYS 0, 2, 4, 6 to where it came from;");
        for (int way = 0; way < 8; way += 2) {
            int dx = ON[way][0];
            int dy = ON[way][1];
            // three rocks in a row ahead of the middle: whatever is beside, back it goes
            EchoFines x = Check.told("plan 5 5" + rock(2 + dx, 2 + dy) + rock(2 + dx - dy, 2 + dy + dx)
                + rock(2 + dx + dy, 2 + dy - dx));
            int back = 12 - dx - 5 * dy;
            int echoes = 0;
            for (int cell = 0; cell < 25; cell++) {
                if (x.cell(cell, 0) == 0) echoes += x.sounds(12, 9, false, cell, 1);
            }
            check.due("way " + way + ", to where it came from", x.sounds(12, 9, false, back, 1), 1);
            check.due("way " + way + ", and further", x.sounds(12, 9, false, back - dx - 5 * dy, 1), 1);
            // the two slanting ones turn by the wall, so that six echoes come to cells in all
            check.due("way " + way + ", echoes in all", echoes, 6);
            // a rock beside the way alone changes nothing
            EchoFines y = Check.told("plan 5 5" + rock(2 + 2 * dx, 2 + 2 * dy) + rock(2 + dx - dy, 2 + dy + dx));
            check.due("way " + way + ", home past a rock beside", y.sounds(12, 9, false, 12, 1), 1);
        }
    }

    private static void slantingWaysTurn() {
        check.of(11, "others: if of the two CELLS beside both (one by column alone, one by row alone) just one is ROCK, "
            + "it turns only by that (by the column, if that by column is ROCK; else by the row), else to where it came from.");
        for (int way = 1; way < 8; way += 2) {
            int dx = ON[way][0];
            int dy = ON[way][1];
            for (int beside = 0; beside < 4; beside++) {
                boolean byColumn = (beside & 1) != 0;
                boolean byRow = (beside & 2) != 0;
                EchoFines x = Check.told("plan 5 5" + rock(2 + dx, 2 + dy) + (byColumn ? rock(2 + dx, 2) : "")
                    + (byRow ? rock(2, 2 + dy) : ""));
                String told = "way " + way + (byColumn ? ", rock by column" : "") + (byRow ? ", rock by row" : "");
                boolean turnsByColumn = byColumn && !byRow;
                boolean turnsByRow = byRow && !byColumn;
                check.due(told + ": by the column", x.sounds(12, 9, false, 12 - dx + 5 * dy, 1), turnsByColumn ? 1 : 0);
                check.due(told + ": by the row", x.sounds(12, 9, false, 12 + dx - 5 * dy, 1), turnsByRow ? 1 : 0);
                check.due(told + ": back", x.sounds(12, 9, false, 12 - dx - 5 * dy, 1), turnsByColumn || turnsByRow ? 0 : 1);
            }
            // it is not thrown back by the two beside, if ahead is floor
            EchoFines gap = Check.told("plan 5 5" + rock(2 + dx, 2) + rock(2, 2 + dy));
            check.due("way " + way + ": between two rocks", gap.sounds(12, 9, false, 12 + dx + 5 * dy, 2), 1);
        }
    }

    private static void lessByFade() {
        check.of(11, "Else it goes there, LOUD is less by FADE.");
        for (int fade = 0; fade <= 9; fade++) {
            EchoFines x = Check.told("plan 6 1;fade " + fade);
            for (int cell = 1; cell < 6; cell++) {
                check.due("fade " + fade + ", to " + cell, x.sounds(0, 99, false, cell, 3), 99 - fade * cell);
            }
        }
    }

    private static void goneBelowOne() {
        check.of(11, "It is gone if LOUD is below 1 then.");
        for (int fade = 0; fade <= 9; fade++) {
            EchoFines x = Check.told("plan 6 1;fade " + fade);
            for (int loud = 1; loud <= 99; loud++) {
                for (int cell = 1; cell < 6; cell++) {
                    check.due("fade " + fade + ", loud " + loud + ", to " + cell, x.sounds(0, loud, false, cell, 0),
                        loud - fade * cell >= 1 ? 1 : 0);
                }
            }
        }
        // thrown back with nothing left it is gone, with 1 left it goes on
        EchoFines half = Check.told("plan 3 1;rock 2 0 50;fade 0");
        check.due("1, of which nothing is cut off", half.sounds(0, 1, false, 0, 3), 1);
        check.due("1, of which all is cut off", half.sounds(0, 1, true, 0, 0), 0);
        check.due("99, of which all is cut off", half.sounds(0, 99, true, 0, 0), 0);
        EchoFines most = Check.told("plan 3 1;rock 2 0 49;fade 0");
        check.due("98 hundredths of 1", most.sounds(0, 1, true, 0, 3), 1);
        check.due("98 hundredths of 99", most.sounds(0, 99, true, 0, 3), 2);
    }

    private static void soundsComeByGoing() {
        check.of(11, "SOUNDS are all that come to a CELL (by going there): TICK, LOUD, how often THROWN BACK; "
            + "an ECHO if it was.");
        EchoFines x = Check.told("plan 4 4");
        for (int cell = 0; cell < 16; cell++) check.due("where it is cried", x.sounds(cell, 99, false, cell, 0), 0);
        EchoFines y = Check.told(WALL + ";at a 2 0;at b 3 0");
        check.due("to 2", y.sounds(0, 20, false, 2, 0), 2);
        check.due("to 2, echoes", y.sounds(0, 20, false, 2, 1), 1);
        check.due("to 3, where it is thrown back", y.sounds(0, 20, false, 3, 0), 1);
        check.due("to 3, echoes", y.sounds(0, 20, false, 3, 1), 0);
        int[][] rows = {{0, 2, 18, 0}, {1, 3, 17, 0}, {0, 5, 16, 1}};
        for (int i = 0; i < rows.length; i++) {
            for (int what = 0; what < 4; what++) check.due("sound " + i, y.led(0, 20, false, i, what), rows[i][what]);
        }
        check.due("no more", y.led(0, 20, false, 3, 0), NONE);
    }

    // ---- fines

    private static void eachOtherPerson() {
        check.of(10, "A CRY of a PERSON (at its window): for each other PERSON that is somewhere, "
            + "each ECHO that comes to its CELL:");
        String law = ";law 1 0 5";
        check.due("nobody else", Check.told(WALL + ";at a 0 0" + law).costs(0, 20, false, 0), 0);
        check.due("one more beside it", Check.told(WALL + ";at a 0 0;at b 0 0" + law).costs(0, 20, false, 0), 5);
        check.due("no echo comes to 3", Check.told(WALL + ";at a 0 0;at b 3 0" + law).costs(0, 20, false, 0), 0);
        check.due("others beside each other", Check.told(WALL + ";at a 0 0;at b 2 0;at c 2 0" + law).costs(0, 20, false, 0), 10);
        check.due("one is gone", Check.told(WALL + ";at a 0 0;at b 2 0;at c 2 0;gone b" + law).costs(0, 20, false, 0), 5);
        check.due("at its window", Check.told(WALL + ";at a 3 0;at b 0 0" + law).costs(0, 4, false, 0), 5);
        check.due("too low at its window", Check.told(WALL + ";at a 3 0;at b 0 0" + law).costs(0, 3, false, 0), 0);
        EchoFines all = Check.told(WALL + ";at a 0 0;at b 0 0;at c 0 0;at d 0 0;at e 0 0;at f 0 0" + law);
        for (int person = 0; person < 6; person++) check.due("five others", all.costs(person, 20, false, 0), 25);
        check.due("29 echoes", Check.told(PAIR + ";at a 1 0;at b 2 0" + law).costs(0, 20, false, 0), 29 * 5);
    }

    private static void firstLaw() {
        check.of(10, "the first LAW by which it is LOUD or louder, in TICK LATE or later: COINS of it");
        // the echo comes to b in tick 5, 16 loud
        Object[][] rows = {{"law 16 5 7", 7}, {"law 17 5 7", 0}, {"law 16 6 7", 0}, {"law 15 4 7", 7}, {"law 99 0 7", 0},
            {"law 1 60 7", 0}, {"law 1 0 99", 99}, {"law 1 0 1", 1}, {"law 16 5 7;law 1 0 9", 7}, {"law 17 5 7;law 1 0 9", 9},
            {"law 16 6 7;law 1 0 9", 9}, {"law 1 0 9;law 16 5 7", 9}, {"law 99 0 1;law 1 60 2;law 16 5 3;law 16 5 4", 3},
            {"law 99 0 1;law 99 0 2;law 99 0 3;law 99 0 4;law 99 0 5;law 16 5 6", 6}};
        for (Object[] row : rows) {
            EchoFines x = Check.told(WALL + ";at a 0 0;at b 2 0", (String) row[0]);
            check.due((String) row[0], x.costs(0, 20, false, 0), (Integer) row[1]);
        }
    }

    private static void timesOfNight() {
        check.of(10, "(times NIGHT's, if it is cried in an HOUR of it) are owed to that one;");
        for (int hour = 0; hour < 24; hour++) {
            EchoFines x = Check.told(WALL + ";at a 0 0;at b 2 0;law 1 0 5;night 22 3 9");
            boolean night = hour >= 22 || hour < 3;
            check.due("hour " + hour, x.costs(0, 20, false, hour), night ? 45 : 5);
            check.due("cried in hour " + hour, x.cry(0, 20, false, hour), night ? 45 : 5);
            check.due("owed by hour " + hour, x.owed(0, 1), LIFT + (night ? 45 : 5));
            EchoFines none = Check.told(WALL + ";at a 0 0;at b 2 0;law 1 0 5;night 7 7 9");
            check.due("no night, hour " + hour, none.costs(0, 20, false, hour), 5);
        }
    }

    private static void nothingWithoutALaw() {
        check.of(9, "none: nothing.");
        EchoFines x = Check.told(WALL + ";at a 0 0;at b 2 0;night 0 23 9");
        check.due("no law", x.cry(0, 20, false, 0), 0);
        check.due("owed", x.owed(0, 1), LIFT);
        check.due("it is a cry all the same", x.person(0, 2), 1);
        EchoFines y = Check.told(WALL + ";at a 0 0;at b 2 0;law 17 0 5;law 1 6 5");
        check.due("no law fits", y.cry(0, 20, false, 0), 0);
        check.due("settled", y.settled(), 0);
    }

    private static void cry() {
        check.of(9, "A CRY of a PERSON in an HOUR (0 .. 23): what it costs.");
        EchoFines x = Check.told(WALL + ";at a 0 0;at b 2 0;at c 0 0;law 1 0 5;night 23 1 2");
        check.due("hour 0", x.cry(0, 20, false, 0), 20);
        check.due("hour 23", x.cry(0, 20, false, 23), 20);
        check.due("hour 1", x.cry(0, 20, false, 1), 10);
        check.due("hour 22", x.cry(0, 20, true, 22), 10);
        check.due("hour -1", x.cry(0, 20, false, -1), OUTSIDE);
        check.due("hour 24", x.cry(0, 20, false, 24), OUTSIDE);
        check.due("owed to b", x.owed(0, 1), LIFT + 30);
        check.due("owed to c", x.owed(0, 2), LIFT + 30);
        check.due("cries", x.person(0, 2), 4);
        check.due("loud 1", x.cry(0, 1, false, 0), 0);
        check.due("loud 99", x.cry(0, 99, false, 5), 10);
    }

    private static void twentyCries() {
        check.of(9, "CRIES that were made are kept, 20 at most.");
        EchoFines x = Check.told(WALL + ";at a 0 0;at b 2 0;law 1 0 5");
        x.keep(0);
        for (int i = 1; i <= 20; i++) {
            check.due("cry " + i, x.cry(i % 2, 20, false, 0), 5);
            check.due("cries", x.count(5), i);
        }
        check.due("cry 21", x.cry(0, 20, false, 0), FULL);
        check.due("cry 21, without any fine", x.cry(0, 1, false, 0), FULL);
        check.due("cries", x.count(5), 20);
        check.due("cries of a", x.person(0, 2), 10);
        check.due("cries of b", x.person(1, 2), 10);
        check.due("owed", x.owed(0, 1), LIFT);
        check.due("all of them count for living", x.living(1), 100);
        check.due("costs() is asked all the same", x.costs(0, 20, false, 0), 5);
        check.due("back(0)", x.back(0), 0);
        check.due("there is room again", x.cry(0, 20, false, 0), 5);
        EchoFines y = Check.told(WALL + ";at a 0 0;at b 2 0;law 1 0 5");
        for (int i = 1; i <= 20; i++) y.cry(0, 20, false, 0);
        check.due("a text", Check.tell(y, "fade 1"), 1);
        check.due("makes room too", y.cry(0, 20, false, 0), 5);
    }

    private static void costs() {
        check.of(10, "What a CRY of a PERSON would cost.");
        EchoFines x = Check.told(WALL + ";at a 0 0;at b 2 0;law 1 0 5");
        for (int hour : new int[] {0, 23}) {
            for (int loud : new int[] {5, 99}) check.due("costs", x.costs(0, loud, true, hour), 5);
            for (int loud : new int[] {1, 4}) check.due("costs nothing", x.costs(0, loud, false, hour), 0);
        }
        check.due("nothing is cried", x.count(5), 0);
        check.due("nothing is owed", x.owed(0, 1), LIFT);
        check.due("cried, it costs as much", x.cry(0, 5, false, 0), 5);
    }

    // ---- what sounds come

    private static void sounds() {
        check.of(11, "By a CRY at a CELL: how many SOUNDS come to a CELL (what 0), how many of these are ECHOES (1), "
            + "the first TICK (2; NONE), the greatest LOUD (3; NONE).");
        // # . x . . #: the soft rock is nearer, the hard one throws back more
        EchoFines x = Check.told("plan 6 1;rock 0 0 60;rock 5 0 0;fade 9");
        check.due("home, many", x.sounds(2, 50, false, 2, 0), 2);
        check.due("home, echoes", x.sounds(2, 50, false, 2, 1), 2);
        check.due("home, first tick", x.sounds(2, 50, false, 2, 2), 3);
        // 50 less 9 is 41, less 24 is 17, less 9; but by the other side 50 less 4 times 9
        check.due("home, greatest loud", x.sounds(2, 50, false, 2, 3), 14);
        check.due("1, many", x.sounds(2, 50, false, 1, 0), 2);
        check.due("1, echoes", x.sounds(2, 50, false, 1, 1), 1);
        check.due("1, first tick", x.sounds(2, 50, false, 1, 2), 1);
        check.due("1, greatest loud", x.sounds(2, 50, false, 1, 3), 41);
        EchoFines open = Check.told("plan 3 3");
        int[] nothing = {0, 0, NONE, NONE};
        for (int what = 0; what < 4; what++) {
            check.due("nothing comes, what " + what, open.sounds(0, 99, false, 5, what), nothing[what]);
            check.due("too low, what " + what, open.sounds(0, 1, false, 1, what), nothing[what]);
        }
    }

    private static void order() {
        check.of(12, "ORDER of SOUNDS that come to PERSONS by a CRY: by TICKS, of like ones by WAYS (as they began), "
            + "then by PERSONS.");
        EchoFines x = Check.told("plan 5 1;rock 0 0 10;rock 4 0 0;at f 2 0;at e 1 0;at c 3 0;at d 1 0");
        int[][] rows = {
            {2, 1, 29, 0, 2},
            {3, 1, 29, 0, 6},
            {4, 1, 29, 0, 6},
            {5, 3, 28, 1, 2}, // it began by way 2 and goes by way 6 now
            {5, 3, 26, 1, 6},
            {3, 4, 27, 1, 2}, // d and e by way 2, ahead of c by way 6
            {4, 4, 27, 1, 2},
            {2, 4, 25, 1, 6},
            {5, 6, 24, 2, 2}, // 27 less 2 is 25, less 1
            {5, 6, 24, 2, 6},
        };
        for (int i = 0; i < rows.length; i++) {
            for (int what = 0; what < 5; what++) {
                check.due("sound " + i + ", what " + what, x.led(2, 30, false, i, what), rows[i][what]);
            }
        }
    }

    private static void led() {
        check.of(12, "The i-th SOUND (from 0) in ORDER that comes to PERSONS by a CRY at a CELL: who (what 0), TICK (1), "
            + "LOUD (2), how often THROWN BACK (3), its WAY as it began (4); NONE: there are not so many.");
        EchoFines x = Check.told(WALL + ";at b 2 0");
        int[][] rows = {{1, 2, 18, 0, 2}, {1, 5, 16, 1, 2}};
        for (int what = 0; what < 5; what++) {
            check.due("the first, what " + what, x.led(0, 20, false, 0, what), rows[0][what]);
            check.due("the last, what " + what, x.led(0, 20, false, 1, what), rows[1][what]);
            check.due("one too many, what " + what, x.led(0, 20, false, 2, what), NONE);
            check.due("many too many, what " + what, x.led(0, 20, false, Integer.MAX_VALUE, what), NONE);
            check.due("nobody, what " + what, new EchoFines().led(0, 20, false, 0, what), NONE);
        }
        // all six at one cell: each sound is led six times
        EchoFines all = Check.told(WALL + ";at a 2 0;at b 2 0;at c 2 0;at d 2 0;at e 2 0;at f 2 0");
        for (int i = 0; i < 12; i++) check.due("who, of six", all.led(0, 20, false, i, 0), i % 6);
        check.due("the thirteenth", all.led(0, 20, false, 12, 0), NONE);
    }

    private static void whisper() {
        check.of(13, "PERSONS to whom any SOUND comes by a CRY at a CELL, or that are there, by bits.");
        EchoFines x = Check.told("plan 6 1;at a 0 0;at b 1 0;at c 5 0;at f 0 0;fade 2");
        check.due("only who is there", x.whisper(0, 1, false), 33);
        check.due("2: gone as it comes", x.whisper(0, 2, false), 33);
        check.due("3: comes to b", x.whisper(0, 3, true), 35);
        check.due("10: not to c", x.whisper(0, 10, false), 35);
        check.due("11: to c", x.whisper(0, 11, false), 39);
        check.due("nobody there", x.whisper(3, 1, false), 0);
        check.due("nobody anywhere", new EchoFines().whisper(15, 99, false), 0);
        // by an echo alone: from 0,3 by 1,2 and 2,1, where it turns by the column, to 1,0
        EchoFines y = Check.told("plan 6 6;rock 3 0 0;rock 3 1 0;at d 1 0");
        check.due("too low for the echo", y.whisper(18, 3, false), 0);
        check.due("by an echo", y.whisper(18, 4, false), 8);
    }

    // ---- what is owed

    private static void owed() {
        check.of(14, "OWED: what one owes another one, less what that one owes it (all but what was paid).");
        EchoFines x = Check.told(WALL + ";at a 0 0;at b 2 0;law 1 0 5;night 0 1 9");
        for (int one = 0; one < 6; one++) {
            for (int other = 0; other < 6; other++) {
                if (one != other) check.due("nothing at first", x.owed(one, other), LIFT);
            }
        }
        check.due("a cries", x.cry(0, 20, false, 0), 45);
        check.due("a owes", x.owed(0, 1), LIFT + 45);
        check.due("b owes less than nothing", x.owed(1, 0), LIFT - 45);
        check.due("b cries", x.cry(1, 20, false, 5), 5);
        check.due("a owes less", x.owed(0, 1), LIFT + 40);
        check.due("a pays", x.pay(0, 1, 39), LIFT + 1);
        check.due("b cries again", x.cry(1, 20, false, 5), 5);
        check.due("now b owes", x.owed(1, 0), LIFT + 4);
        check.due("a less than nothing", x.owed(0, 1), LIFT - 4);
        check.of(14, "OWED, and 100000000.");
        check.due("owed of others", x.owed(4, 5), 100000000);
    }

    private static void net() {
        check.of(7, "NET of a PERSON: what is owed to it, less what it owes.");
        EchoFines x = Check.told(WALL + ";at a 0 0;at b 2 0;at c 0 0;law 1 0 5");
        check.due("a cries", x.cry(0, 20, false, 0), 10);
        check.due("c cries", x.cry(2, 20, false, 0), 10);
        check.due("a cries again", x.cry(0, 20, false, 0), 10);
        // a owes b 10 and c 5, c owes b 5
        check.due("net of a", x.person(0, 1), LIFT - 15);
        check.due("net of b", x.person(1, 1), LIFT + 15);
        check.due("net of c", x.person(2, 1), LIFT);
        check.due("net of d", x.person(3, 1), LIFT);
        check.due("a pays b", x.pay(0, 1, 10), LIFT);
        check.due("net of a then", x.person(0, 1), LIFT - 5);
        check.due("net of b then", x.person(1, 1), LIFT + 5);
    }

    private static void pay() {
        check.of(15, "A PERSON pays another one n COINS (1 .. 9999): OWED by it then, and 100000000.");
        EchoFines x = Check.told(PAIR + ";at a 1 0;at b 1 0;law 1 0 99;night 0 1 9");
        check.due("30 echoes, 99 coins, 9 times", x.cry(0, 20, false, 0), 26730);
        check.due("pay 10000 of 26730", x.pay(0, 1, 10000), OUTSIDE);
        check.due("pay 9999", x.pay(0, 1, 9999), LIFT + 16731);
        check.due("pay 9999", x.pay(0, 1, 9999), LIFT + 6732);
        check.due("pay 1", x.pay(0, 1, 1), LIFT + 6731);
        check.due("pay 0", x.pay(0, 1, 0), OUTSIDE);
        check.due("net of b", x.person(1, 1), LIFT + 6731);
        check.due("owed the other way", x.owed(1, 0), LIFT - 6731);
        check.due("pay all", x.pay(0, 1, 6731), LIFT);
        check.due("settled", x.settled(), 0);
        check.due("paying is no cry", x.count(5), 1);
    }

    private static void payNoMoreThanOwed() {
        check.of(15, "NOT: it owes less.");
        EchoFines x = Check.told(WALL + ";at a 0 0;at b 2 0;law 1 0 5");
        check.due("nothing is owed", x.pay(0, 1, 1), NOT);
        x.cry(0, 20, false, 0);
        check.due("one too many", x.pay(0, 1, 6), NOT);
        check.due("9999", x.pay(0, 1, 9999), NOT);
        check.due("by the one to whom it is owed", x.pay(1, 0, 1), NOT);
        check.due("to another one", x.pay(0, 2, 1), NOT);
        check.due("still owed", x.owed(0, 1), LIFT + 5);
        check.due("just as much", x.pay(0, 1, 5), LIFT);
        check.due("and no more", x.pay(0, 1, 1), NOT);
        // who is nowhere owes and pays all the same
        x.cry(0, 20, false, 0);
        check.due("fall(0)", x.fall(0), 1);
        check.due("a, nowhere, pays", x.pay(0, 1, 2), LIFT + 3);
    }

    /** Six at one window, where each cry comes back once and costs 99 to each of the five others. */
    private static EchoFines together() {
        return Check.told("plan 3 1;rock 2 0 0;fade 0;law 1 0 99;at a 0 0;at b 0 0;at c 0 0;at d 0 0;at e 0 0;at f 0 0");
    }

    /** Pays others until one owes each of them as much as is wanted. */
    private static void payDown(EchoFines x, int one, int[] wanted) {
        for (int other = 0; other < 6; other++) {
            int more = other == one ? 0 : x.owed(one, other) - LIFT - wanted[other];
            if (more > 0) check.due("pay down", x.pay(one, other, more), LIFT + wanted[other]);
        }
    }

    /** Rows of who owes, to whom, how much; who is owed by one and owes itself stands ahead of that one. */
    private static EchoFines owing(int[]... debts) {
        EchoFines x = together();
        Set<Integer> criers = new LinkedHashSet<>();
        for (int[] debt : debts) criers.add(debt[0]);
        for (int crier : criers) {
            check.due("cry", x.cry(crier, 9, false, 0), 5 * 99);
            int[] wanted = new int[6];
            for (int[] debt : debts) {
                if (debt[0] == crier) wanted[debt[1]] = debt[2];
            }
            payDown(x, crier, wanted);
        }
        for (int[] debt : debts) check.due("owed", x.owed(debt[0], debt[1]), LIFT + debt[2]);
        return x;
    }

    private static void settled() {
        check.of(16, "SETTLED.");
        check.due("nobody owes", new EchoFines().settled(), 0);
        check.due("all was paid", owing(new int[] {0, 1, 0}).settled(), 0);
        check.of(16, "SETTLED: the fewest payments (of one to another one, of any amount) by which all NETS are nothing.");
        check.due("one debt", owing(new int[] {5, 0, 1}).settled(), 1);
        check.due("one owes five", owing(new int[][] {{0, 1, 1}, {0, 2, 2}, {0, 3, 3}, {0, 4, 4}, {0, 5, 5}}).settled(), 5);
        check.due("five owe one", owing(new int[][] {{1, 0, 9}, {2, 0, 9}, {3, 0, 9}, {4, 0, 9}, {5, 0, 9}}).settled(), 5);
        check.due("a chain", owing(new int[][] {{1, 2, 5}, {0, 1, 5}}).settled(), 1);
        check.due("a chain that thins", owing(new int[][] {{1, 2, 5}, {0, 1, 6}}).settled(), 2);
        // nets -3, -4, 3, 4: four debts, two payments
        check.due("crosswise", owing(new int[][] {{0, 2, 1}, {0, 3, 2}, {1, 2, 2}, {1, 3, 2}}).settled(), 2);
        // nets -5, -1, 2, 4
        check.due("no two cancel", owing(new int[][] {{0, 2, 2}, {0, 3, 3}, {1, 3, 1}}).settled(), 3);
        check.due("three pairs", owing(new int[][] {{0, 1, 1}, {2, 3, 2}, {4, 5, 3}}).settled(), 3);
        // nets -5, 2, 3 and -7, 3, 4
        check.due("two groups of three", owing(new int[][] {{0, 1, 2}, {0, 4, 3}, {3, 2, 3}, {3, 5, 4}}).settled(), 4);
        // nets -6, 1, 2, 3 and -4, 4
        check.due("four and two", owing(new int[][] {{0, 1, 1}, {0, 2, 2}, {0, 3, 3}, {4, 5, 4}}).settled(), 4);
        // nets -10, -20, -40, 13, 25, 32: no part of them comes to nothing
        check.due("six that only all cancel",
            owing(new int[][] {{0, 3, 10}, {1, 3, 3}, {1, 4, 17}, {2, 4, 8}, {2, 5, 32}}).settled(), 5);
    }

    private static void settledWhereDebtsGoRound() {
        check.of(16, "by which all NETS are nothing.");
        EchoFines x = together();
        for (int i = 0; i < 3; i++) x.cry(0, 9, false, 0);
        payDown(x, 0, new int[] {0, 203, 0, 0, 0, 0});
        for (int i = 0; i < 2; i++) x.cry(1, 9, false, 0);
        payDown(x, 1, new int[] {0, 0, 104, 0, 0, 0});
        x.cry(2, 9, false, 0);
        payDown(x, 2, new int[] {5, 0, 0, 0, 0, 0});
        check.due("a owes b", x.owed(0, 1), LIFT + 5);
        check.due("b owes c", x.owed(1, 2), LIFT + 5);
        check.due("c owes a", x.owed(2, 0), LIFT + 5);
        for (int person = 0; person < 6; person++) check.due("net", x.person(person, 1), LIFT);
        check.due("no payment is needed", x.settled(), 0);
        // a's debt is paid, b still owes c and c owes a: b may as well pay a
        check.due("a pays", x.pay(0, 1, 5), LIFT);
        check.due("net of c", x.person(2, 1), LIFT);
        check.due("one payment", x.settled(), 1);
    }

    private static void greatestSums() {
        check.of(7, "NET and 100000000 (1)");
        EchoFines x = Check.told("plan 4 4;rock 0 0 0;rock 1 0 0;rock 2 0 0;rock 3 0 0;rock 0 1 0;rock 3 1 0;rock 0 2 0",
            "rock 3 2 0;rock 0 3 0;rock 1 3 0;rock 2 3 0;rock 3 3 0;fade 0;law 1 0 99;night 5 6 9",
            "at a 1 1;at b 1 1;at c 1 1;at d 1 1;at e 1 1;at f 1 1");
        int echoes = x.sounds(5, 99, false, 5, 1);
        check.holds("a chamber of many echoes: " + echoes, echoes >= 60);
        for (int i = 0; i < 20; i++) check.due("cry " + i, x.cry(0, 99, false, 5), 5 * 891 * echoes);
        check.due("net of a", x.person(0, 1), LIFT - 20 * 5 * 891 * echoes);
        check.due("net of f", x.person(5, 1), LIFT + 20 * 891 * echoes);
        check.due("owed", x.owed(5, 0), LIFT - 20 * 891 * echoes);
        check.due("living(1)", x.living(1), 20 * 891 * echoes);
        check.due("settled()", x.settled(), 5);
    }
}
