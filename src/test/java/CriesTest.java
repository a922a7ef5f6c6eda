/** Promises 9 to 16: cry, costs, sounds, led, whisper, owed, pay, settled. */
public final class CriesTest {
    private static final int NONE = -1, UNKNOWN = -2, OUTSIDE = -3, NOT = -4, FULL = -5;
    private static final int LIFT = 100000000;
    private static final Check check = new Check();

    public static void main(String[] args) {
        sounds();
        soundsThrownBack();
        soundsOnTheSlant();
        soundsRefused();
        led();
        whisper();
        costs();
        costsByNight();
        cry();
        owedAndPay();
        settled();
        check.end();
    }

    private static void sounds() {
        EchoFines x = Check.told("plan 5 5");
        // from the middle each of the 16 cells on the eight ways is come to once, no other ever
        for (int cell = 0; cell < 25; cell++) {
            int dx = Math.abs(cell % 5 - 2);
            int dy = Math.abs(cell / 5 - 2);
            boolean onWay = cell != 12 && (dx == 0 || dy == 0 || dx == dy);
            int far = Math.max(dx, dy);
            check.due("many to " + cell, x.sounds(12, 9, false, cell, 0), onWay ? 1 : 0);
            check.due("echoes to " + cell, x.sounds(12, 9, true, cell, 1), 0);
            check.due("tick to " + cell, x.sounds(12, 9, false, cell, 2), onWay ? far : NONE);
            check.due("loud to " + cell, x.sounds(12, 9, false, cell, 3), onWay ? 9 - far : NONE);
        }
        // a sound of which nothing is left as it comes does not come
        check.due("loud 2 goes one cell", x.sounds(12, 2, false, 13, 0), 1);
        check.due("loud 2 does not go two", x.sounds(12, 2, false, 14, 0), 0);
        check.due("loud 1 goes nowhere", x.sounds(12, 1, false, 13, 0), 0);
        EchoFines y = Check.told("plan 6 1;fade 9");
        check.due("loud 99 by fade 9", y.sounds(0, 99, false, 5, 3), 54);
        check.due("loud 45 by fade 9", y.sounds(0, 45, false, 5, 0), 0);
        check.due("loud 46 by fade 9", y.sounds(0, 46, false, 5, 3), 1);
    }

    private static void soundsThrownBack() {
        // . a . #30: tick 1 to 2, tick 2 thrown back, 3 to 1 , 4 to 0, 5 gone
        EchoFines x = Check.told("plan 4 1;rock 3 0 30");
        check.due("to 2", x.sounds(1, 50, false, 2, 0), 1);
        check.due("to 1", x.sounds(1, 50, false, 1, 0), 1);
        check.due("to 1, echoes", x.sounds(1, 50, false, 1, 1), 1);
        check.due("to 1, tick", x.sounds(1, 50, false, 1, 2), 3);
        // 50 - 1 = 49, less 14 (of 14.7) is 35, less 1
        check.due("to 1, loud", x.sounds(1, 50, false, 1, 3), 34);
        // high: less 29 (of 29.4) is 20, less 1
        check.due("to 1, loud, high", x.sounds(1, 50, true, 1, 3), 19);
        check.due("to 0", x.sounds(1, 50, false, 0, 0), 2);
        check.due("to 0, echoes", x.sounds(1, 50, false, 0, 1), 1);
        check.due("to 0, first", x.sounds(1, 50, false, 0, 2), 1);
        EchoFines soft = Check.told("plan 3 1;rock 2 0 50;fade 0");
        check.due("half, low", soft.sounds(0, 9, false, 0, 3), 5);
        check.due("all of it, high", soft.sounds(0, 9, true, 0, 0), 0);
        EchoFines softer = Check.told("plan 3 1;rock 2 0 99;fade 0");
        check.due("99 hundredths of 99", softer.sounds(0, 99, false, 0, 3), 1);
        check.due("99 hundredths of 1: cut", softer.sounds(0, 1, false, 0, 3), 1);
        check.due("100 at most", softer.sounds(0, 99, true, 0, 0), 0);
        // sixty ticks: beside two rocks each way takes two ticks to and fro
        EchoFines pit = Check.told("plan 3 1;rock 0 0 0;rock 2 0 0;fade 0");
        check.due("a pit", pit.sounds(1, 1, false, 1, 0), 0);
        EchoFines pair = Check.told("plan 4 1;rock 0 0 0;rock 3 0 0;fade 0");
        // way 2: to 2 in ticks 1, 5, .. 57 and 1 in 3, 7, .. 59; way 6: to 2 in 2, 6, .. 58 and 1 in 4, .. 60
        check.due("a pair, ahead", pair.sounds(1, 1, false, 2, 0), 30);
        check.due("a pair, ahead, echoes", pair.sounds(1, 1, false, 2, 1), 29);
        check.due("a pair, at home", pair.sounds(1, 1, false, 1, 0), 30);
    }

    private static void soundsOnTheSlant() {
        // from 2,2 by way 1 to 3,1; ahead 4,0
        EchoFines alone = Check.told("plan 6 6;rock 4 0 0");
        check.due("one rock: back", alone.sounds(14, 20, false, 14, 0), 1);
        check.due("one rock: back in tick", alone.sounds(14, 20, false, 14, 2), 3);
        EchoFines column = Check.told("plan 6 6;rock 4 0 0;rock 4 1 0");
        // turned by the column: from 3,1 by way 7 to 2,0 in tick 3
        check.due("rock by column", column.sounds(14, 20, false, 2, 1), 1);
        check.due("rock by column, not home", column.sounds(14, 20, false, 14, 1), 0);
        EchoFines row = Check.told("plan 6 6;rock 4 0 0;rock 3 0 0");
        // turned by the row: from 3,1 by way 3 to 4,2 in tick 3
        check.due("rock by row, to 16", row.sounds(14, 20, false, 16, 1), 1);
        check.due("rock by row, to 23", row.sounds(14, 20, false, 23, 1), 1);
        check.due("rock by row, not home", row.sounds(14, 20, false, 14, 1), 0);
        EchoFines both = Check.told("plan 6 6;rock 4 0 0;rock 3 0 0;rock 4 1 0");
        check.due("a corner: back", both.sounds(14, 20, false, 14, 1), 1);
        // between two rocks that touch at a corner it goes on
        EchoFines gap = Check.told("plan 6 6;rock 3 2 0;rock 2 1 0");
        check.due("through the gap", gap.sounds(14, 20, false, 9, 0), 1);
    }

    private static void soundsRefused() {
        EchoFines x = Check.told("plan 2 2;rock 1 1 0");
        check.due("from -1", x.sounds(-1, 0, false, 0, 9), UNKNOWN);
        check.due("from 4", x.sounds(4, 5, false, 0, 0), UNKNOWN);
        check.due("to -1", x.sounds(0, 0, false, -1, 9), UNKNOWN);
        check.due("to 4", x.sounds(0, 5, false, 4, 0), UNKNOWN);
        check.due("loud 0", x.sounds(3, 0, false, 0, 0), OUTSIDE);
        check.due("loud 100", x.sounds(0, 100, false, 0, 0), OUTSIDE);
        check.due("what -1", x.sounds(0, 5, false, 3, -1), OUTSIDE);
        check.due("what 4", x.sounds(0, 5, false, 3, 4), OUTSIDE);
        check.due("from rock", x.sounds(3, 5, false, 0, 0), NOT);
        check.due("to rock", x.sounds(0, 5, false, 3, 0), NOT);
    }

    private static void led() {
        // 0 #  1 b,d  2 a  3 c  4 #0
        EchoFines x = Check.told("plan 5 1;rock 0 0 10;rock 4 0 0;at a 2 0;at b 1 0;at c 3 0;at d 1 0");
        int[][] rows = {
            {2, 1, 29, 0, 2}, // way 2 to c
            {1, 1, 29, 0, 6}, // way 6 to b, then d
            {3, 1, 29, 0, 6},
            {0, 3, 28, 1, 2}, // way 2 thrown back in tick 2, home to a
            {0, 3, 26, 1, 6}, // way 6: 29 less 2 is 27
            {1, 4, 27, 1, 2},
            {3, 4, 27, 1, 2},
            {2, 4, 25, 1, 6},
        };
        for (int i = 0; i < rows.length; i++) {
            for (int what = 0; what < 5; what++) {
                check.due("led " + i + " " + what, x.led(2, 30, false, i, what), rows[i][what]);
            }
        }
        // by tick 6 it is thrown back twice
        check.due("led 8", x.led(2, 30, false, 8, 3), 2);
        check.due("led many", x.led(2, 30, false, Integer.MAX_VALUE, 0), NONE);
        check.due("led 3 of a short cry", x.led(2, 2, false, 3, 0), NONE);
        check.due("led 2 of a short cry", x.led(2, 2, false, 2, 0), 3);
        // to and fro between two rocks: way 2 comes home in ticks 3, 7, .. 59, way 6 in 4, 8, .. 60
        EchoFines pair = Check.told("plan 4 1;rock 0 0 0;rock 3 0 0;fade 0;at a 1 0");
        check.due("the last sound, tick", pair.led(1, 1, false, 29, 1), 60);
        check.due("the last sound, thrown back", pair.led(1, 1, false, 29, 3), 30);
        check.due("the last sound, way", pair.led(1, 1, false, 29, 4), 6);
        check.due("none behind", pair.led(1, 1, false, 30, 1), NONE);
        check.due("from -1", x.led(-1, 0, false, -1, 9), UNKNOWN);
        check.due("from 5", x.led(5, 30, false, 0, 0), UNKNOWN);
        check.due("loud 0", x.led(0, 0, false, 0, 0), OUTSIDE);
        check.due("loud 100", x.led(2, 100, false, 0, 0), OUTSIDE);
        check.due("i -1", x.led(0, 30, false, -1, 0), OUTSIDE);
        check.due("what -1", x.led(0, 30, false, 0, -1), OUTSIDE);
        check.due("what 5", x.led(0, 30, false, 0, 5), OUTSIDE);
        check.due("rock", x.led(0, 30, false, 0, 0), NOT);
    }

    private static void whisper() {
        EchoFines x = Check.told("plan 6 2;rock 5 0 0;at a 0 0;at b 1 0;at c 2 1;at d 3 0;at e 0 0;at f 4 1");
        check.due("those there", x.whisper(0, 1, false), 1 | 16);
        check.due("one more", x.whisper(0, 2, false), 1 | 16 | 2);
        check.due("d too", x.whisper(0, 4, true), 1 | 16 | 2 | 8);
        check.due("c and f never", x.whisper(0, 99, false), 1 | 16 | 2 | 8);
        check.due("from an empty cell", x.whisper(6, 99, false), 1 | 16 | 2 | 4 | 32);
        check.due("from -1", x.whisper(-1, 0, false), UNKNOWN);
        check.due("from 12", x.whisper(12, 5, false), UNKNOWN);
        check.due("loud 0", x.whisper(5, 0, false), OUTSIDE);
        check.due("loud 100", x.whisper(5, 100, false), OUTSIDE);
        check.due("rock", x.whisper(5, 5, false), NOT);
    }

    private static void costs() {
        // a cries: b hears it in tick 2 (no echo) and, 16 loud, in 5; c beside a, 14 loud, in 7
        String plan = "plan 5 1;rock 4 0 0;at a 0 0;at b 2 0;at c 0 0;fade 1";
        check.due("no laws", Check.told(plan).costs(0, 20, false, 0), 0);
        check.due("one law", Check.told(plan, "law 1 0 5").costs(0, 20, false, 0), 10);
        check.due("loud enough", Check.told(plan, "law 16 0 5").costs(0, 20, false, 0), 5);
        check.due("not loud enough", Check.told(plan, "law 17 0 5").costs(0, 20, false, 0), 0);
        check.due("late enough", Check.told(plan, "law 1 7 5").costs(0, 20, false, 0), 5);
        check.due("not late enough", Check.told(plan, "law 1 8 5").costs(0, 20, false, 0), 0);
        check.due("the first law", Check.told(plan, "law 16 0 9;law 1 0 5").costs(0, 20, false, 0), 14);
        check.due("the first law again", Check.told(plan, "law 1 0 5;law 16 0 9").costs(0, 20, false, 0), 10);
        check.due("the crier pays itself nothing", Check.told(plan, "gone c;law 1 0 5").costs(0, 20, false, 0), 5);
        EchoFines x = Check.told(plan, "law 1 0 5");
        check.due("nothing is owed", x.owed(0, 1), LIFT);
        check.due("no cry", x.count(5), 0);
        check.due("person -1", x.costs(-1, 0, false, 24), UNKNOWN);
        check.due("person 6", x.costs(6, 20, false, 0), UNKNOWN);
        check.due("loud 0", x.costs(3, 0, false, 0), OUTSIDE);
        check.due("loud 100", x.costs(0, 100, false, 0), OUTSIDE);
        check.due("hour -1", x.costs(0, 20, false, -1), OUTSIDE);
        check.due("hour 24", x.costs(3, 20, false, 24), OUTSIDE);
        check.due("nowhere", x.costs(3, 20, false, 0), NOT);
    }

    private static void costsByNight() {
        EchoFines x = Check.told("plan 5 1;rock 4 0 0;at a 0 0;at b 2 0;law 1 0 5;night 22 3 9");
        for (int hour = 0; hour < 24; hour++) {
            boolean night = hour >= 22 || hour < 3;
            check.due("hour " + hour, x.costs(0, 20, false, hour), night ? 45 : 5);
        }
        EchoFines y = Check.told("plan 5 1;rock 4 0 0;at a 0 0;at b 2 0;law 1 0 5;night 7 7 9");
        for (int hour = 0; hour < 24; hour++) check.due("no night " + hour, y.costs(0, 20, false, hour), 5);
    }

    private static void cry() {
        EchoFines x = Check.told("plan 5 1;rock 4 0 0;at a 0 0;at b 2 0;at c 0 0;law 1 0 5;night 22 3 2");
        check.due("cry", x.cry(0, 20, false, 22), 20);
        check.due("owed to b", x.owed(0, 1), LIFT + 10);
        check.due("owed to c", x.owed(0, 2), LIFT + 10);
        check.due("owed to d", x.owed(0, 3), LIFT);
        check.due("cry", x.cry(1, 20, true, 12), 10);
        check.due("owed to b then", x.owed(0, 1), LIFT + 5);
        check.due("cries", x.count(5), 2);
        check.due("person -1", x.cry(-1, 0, false, 24), UNKNOWN);
        check.due("person 6", x.cry(6, 20, false, 0), UNKNOWN);
        check.due("loud 0", x.cry(3, 0, false, 0), OUTSIDE);
        check.due("loud 100", x.cry(0, 100, false, 0), OUTSIDE);
        check.due("hour -1", x.cry(0, 20, false, -1), OUTSIDE);
        check.due("hour 24", x.cry(0, 20, false, 24), OUTSIDE);
        check.due("nowhere", x.cry(3, 20, false, 0), NOT);
        check.due("cries", x.count(5), 2);
        for (int i = 3; i <= 20; i++) check.due("cry " + i, x.cry(2, 1, false, 5), 0);
        check.due("cries", x.count(5), 20);
        check.due("cry 21 of nobody", x.cry(3, 20, false, 0), NOT);
        check.due("cry 21 at no hour", x.cry(0, 20, false, 24), OUTSIDE);
        check.due("cry 21", x.cry(0, 20, false, 22), FULL);
        check.due("nothing more is owed", x.owed(0, 2), LIFT + 10);
        check.due("cries of c", x.person(2, 2), 18);
    }

    private static void owedAndPay() {
        EchoFines x = Check.told("plan 5 1;rock 4 0 0;at a 0 0;at b 2 0;law 1 0 50");
        x.cry(0, 20, false, 0);
        check.due("owed", x.owed(0, 1), LIFT + 50);
        check.due("owed the other way", x.owed(1, 0), LIFT - 50);
        check.due("one and itself", x.owed(1, 1), OUTSIDE);
        check.due("owed -1", x.owed(-1, -1), UNKNOWN);
        check.due("owed 6", x.owed(0, 6), UNKNOWN);
        check.due("owed 6", x.owed(6, 0), UNKNOWN);
        check.due("pay too much", x.pay(0, 1, 51), NOT);
        check.due("pay 0", x.pay(0, 1, 0), OUTSIDE);
        check.due("pay -1", x.pay(0, 1, -1), OUTSIDE);
        check.due("pay 10000", x.pay(0, 1, 10000), OUTSIDE);
        check.due("pay 9999", x.pay(0, 1, 9999), NOT);
        check.due("pay oneself", x.pay(1, 1, 1), OUTSIDE);
        check.due("pay by nobody", x.pay(6, 6, 0), UNKNOWN);
        check.due("pay nobody", x.pay(0, -1, 0), UNKNOWN);
        check.due("pay by the one who is owed", x.pay(1, 0, 1), NOT);
        check.due("still owed", x.owed(0, 1), LIFT + 50);
        check.due("pay", x.pay(0, 1, 20), LIFT + 30);
        check.due("net of b", x.person(1, 1), LIFT + 30);
        check.due("net of a", x.person(0, 1), LIFT - 30);
        check.due("pay all", x.pay(0, 1, 30), LIFT);
        check.due("pay more", x.pay(0, 1, 1), NOT);
        check.due("settled", x.settled(), 0);
    }

    private static void settled() {
        EchoFines none = new EchoFines();
        check.due("nobody owes", none.settled(), 0);
        // rows apart: a and b in the one, c and d in the other, e and f in the third, walls between
        EchoFines x = Check.told("plan 3 5;rock 2 0 0;rock 2 2 0;rock 2 4 0;law 1 0 7;at a 0 0;at b 1 0;at c 0 2",
            "at d 1 2;at e 0 4;at f 1 4");
        // b's cry is thrown back in tick 1 and comes to a in tick 2
        check.due("b cries too low", x.cry(1, 1, false, 0), 0);
        check.due("no payment", x.settled(), 0);
        check.due("b cries", x.cry(1, 2, false, 0), 7);
        check.due("one payment", x.settled(), 1);
        check.due("d cries", x.cry(3, 2, false, 0), 7);
        check.due("two payments", x.settled(), 2);
        check.due("f cries", x.cry(5, 2, false, 0), 7);
        check.due("three payments", x.settled(), 3);
        check.due("b cries again", x.cry(1, 2, false, 0), 7);
        check.due("still three", x.settled(), 3);
        // a owes b and c, b owes c: b's net is nothing, so one payment is enough
        EchoFines chain = Check.told("plan 4 1;rock 3 0 0;at a 2 0;at b 1 0;at c 0 0;law 1 0 5");
        check.due("a cries", chain.cry(0, 20, false, 0), 10);
        check.due("two to be paid", chain.settled(), 2);
        check.due("b cries then", chain.cry(1, 20, false, 0), 5);
        check.due("net of b", chain.person(1, 1), LIFT);
        check.due("one to be paid", chain.settled(), 1);
        check.due("b pays", chain.pay(1, 2, 1), LIFT + 4);
        check.due("two to be paid again", chain.settled(), 2);
    }
}
