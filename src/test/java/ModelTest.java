import java.util.Random;

/** Runs of 512 calls by a fixed seed, the class and the plain model side by side. */
public final class ModelTest {
    private static final int RUNS = 400;
    private static final int CALLS = 512;
    private static final String[] WORDS = {"plan", "rock", "floor", "at", "gone", "law", "free", "night", "fade"};

    private final Check check = new Check();
    private final Random random;
    private final int run;
    private final EchoFines x = new EchoFines();
    private final PlainModel m = new PlainModel();

    private ModelTest(int run) {
        this.run = run;
        this.random = new Random(77000L + run);
    }

    public static void main(String[] args) {
        int wrong = 0;
        for (int run = 0; run < RUNS; run++) {
            ModelTest test = new ModelTest(run);
            test.go();
            if (!test.check.isClean()) wrong++;
        }
        System.out.println(RUNS + " runs beside the model, " + wrong + " not as due");
        if (wrong != 0) System.exit(1);
    }

    private int calls = 0;

    private void go() {
        if (run % 4 != 0) {
            tell(plan());
            tell(people());
        }
        while (calls < CALLS && check.isClean()) step();
    }

    private void due(String call, int got, int want) {
        calls++;
        check.due("run " + run + ", call " + calls + ": " + call, got, want);
    }

    // ---- texts

    private int upTo(int most) {
        return random.nextInt(most + 1);
    }

    private String plan() {
        StringBuilder text = new StringBuilder("plan ");
        int w = 1 + upTo(5);
        int h = 1 + upTo(5);
        if (random.nextInt(3) != 0) w = h = 6;
        text.append(w).append(' ').append(h);
        int soft = random.nextInt(3);
        for (int i = random.nextInt(10); i > 0; i--) {
            text.append(";rock ").append(upTo(w - 1)).append(' ').append(upTo(h - 1)).append(' ');
            text.append(soft == 0 ? 0 : soft == 1 ? upTo(20) : upTo(99));
        }
        return text.toString();
    }

    private String people() {
        StringBuilder text = new StringBuilder("fade ").append(random.nextInt(2) == 0 ? 1 : random.nextInt(3));
        int law = 1 + upTo(3);
        for (int i = 0; i < law; i++) {
            text.append(";law ").append(1 + upTo(20 - 5 * i)).append(' ').append(upTo(20)).append(' ').append(1 + upTo(30));
        }
        for (int p = 0; p < 6 - law / 2; p++) {
            int cell = random.nextInt(x.count(0) * x.count(1));
            if (x.cell(cell, 0) == 1) continue;
            text.append(";at ").append((char) ('a' + p)).append(' ');
            text.append(cell % x.count(0)).append(' ').append(cell / x.count(0));
        }
        return text.toString();
    }

    private String anyNumber() {
        int kind = random.nextInt(12);
        if (kind == 0) return String.valueOf(upTo(130));
        if (kind == 1) return "0" + upTo(99);
        if (kind == 2) return "0" + upTo(9);
        return String.valueOf(upTo(kind < 5 ? 70 : 6));
    }

    private String anyLine() {
        String word = WORDS[random.nextInt(WORDS.length)];
        StringBuilder line = new StringBuilder(word);
        int numbers = word.equals("free") || word.equals("gone") ? 0 : word.equals("fade") ? 1
            : word.equals("plan") || word.equals("floor") || word.equals("at") ? 2 : 3;
        if (word.equals("at") || word.equals("gone")) line.append(' ').append((char) ('a' + random.nextInt(30) % 7));
        for (int i = 0; i < numbers; i++) line.append(blanks()).append(anyNumber());
        return line.toString();
    }

    private String blanks() {
        int many = random.nextInt(14);
        return many > 2 ? " " : many == 2 ? "   " : many == 1 ? "  " : "";
    }

    private String anyText() {
        int kind = random.nextInt(8);
        if (kind == 0) return plan();
        if (kind == 1) return people();
        StringBuilder text = new StringBuilder(anyLine());
        for (int i = random.nextInt(kind == 2 ? 13 : 4); i > 0; i--) text.append(';').append(anyLine());
        if (random.nextInt(3) == 0 && text.length() > 0) {
            int place = random.nextInt(text.length());
            char other = random.nextInt(2) == 0 ? (char) random.nextInt(256) : " ;a0fz9"
                .charAt(random.nextInt(7));
            if (random.nextInt(2) == 0) text.setCharAt(place, other);
            else if (random.nextInt(2) == 0) text.insert(place, other);
            else text.deleteCharAt(place);
        }
        return text.toString();
    }

    private void write(String text) {
        for (int from = 0; from < text.length(); from += 8) {
            int n = Math.min(8, text.length() - from);
            long bytes = Check.packed(text, from, n);
            if (n < 8) bytes |= random.nextLong() << 8 * n;
            due("write of \"" + text + "\"", x.write(bytes, n), m.write(bytes, n));
        }
    }

    private void tell(String text) {
        write(text);
        due("fault of \"" + text + "\"", x.fault(), m.fault());
        if (random.nextInt(4) == 0 && m.fault() != -1) due("erase", x.erase(), m.erase());
        else {
            int want = m.canyon();
            due("canyon of \"" + text + "\"", x.canyon(), want);
            if (want < 0) due("erase", x.erase(), m.erase());
        }
    }

    // ---- calls

    /** Mostly within, at times beyond. */
    private int near(int low, int high) {
        int kind = random.nextInt(60);
        if (kind == 0) return low - 1;
        if (kind == 1) return high + 1;
        if (kind == 2) return random.nextInt();
        return low + random.nextInt(high - low + 1);
    }

    private int anyCell() {
        return near(0, m.count(0) * m.count(1) - 1);
    }

    private int anyPerson() {
        return near(0, 5);
    }

    private int anyLoud() {
        return random.nextInt(2) == 0 ? near(1, 99) : near(1, 15);
    }

    private void step() {
        int kind = random.nextInt(40);
        if (kind < 12) stepOfState(kind);
        else if (kind < 28) stepOfSounds(kind);
        else stepOfRest(kind);
        if (random.nextInt(20) == 0) lookAtAll();
    }

    private void stepOfState(int kind) {
        int p = anyPerson(), q = anyPerson(), loud = anyLoud(), hour = near(0, 23), what = near(0, 2), cell = anyCell();
        boolean high = random.nextBoolean();
        if (kind == 0 && random.nextInt(4) == 0) tell(anyText());
        else if (kind == 1 && random.nextInt(4) == 0) write(anyText());
        else if (kind == 2) due("erase", x.erase(), m.erase());
        else if (kind < 6) due("cry " + p + " " + loud, x.cry(p, loud, high, hour), m.cry(p, loud, high, hour));
        else if (kind < 8) {
            int n = random.nextInt(3) == 0 ? near(1, 9999) : near(1, 30);
            due("pay " + p + " " + q + " " + n, x.pay(p, q, n), m.pay(p, q, n));
        } else if (kind == 8) due("fall " + cell, x.fall(cell), m.fall(cell));
        else if (kind == 9) due("cell " + cell + " " + what, x.cell(cell, what), m.cell(cell, what));
        else if (kind == 10) due("person " + p + " " + what, x.person(p, what), m.person(p, what));
        else {
            int law = near(0, 6);
            due("law " + law + " " + what, x.law(law, what), m.law(law, what));
        }
    }

    private void stepOfSounds(int kind) {
        int from = anyCell(), to = anyCell(), loud = anyLoud(), p = anyPerson(), hour = near(0, 23);
        boolean high = random.nextBoolean();
        String told = " " + from + " " + loud + " " + high + " ";
        if (kind < 16) {
            int what = near(0, 3);
            due("sounds" + told + to + " " + what, x.sounds(from, loud, high, to, what), m.sounds(from, loud, high, to, what));
        } else if (kind < 20) {
            int i = random.nextInt(3) == 0 ? near(0, 60) : near(0, 8);
            int what = near(0, 4);
            due("led" + told + i + " " + what, x.led(from, loud, high, i, what), m.led(from, loud, high, i, what));
        } else if (kind < 22) due("whisper" + told, x.whisper(from, loud, high), m.whisper(from, loud, high));
        else if (kind < 25) due("costs " + p + told + hour, x.costs(p, loud, high, hour), m.costs(p, loud, high, hour));
        else due("changed " + to + told, x.changed(to, from, loud, high), m.changed(to, from, loud, high));
    }

    private void stepOfRest(int kind) {
        int p = anyPerson(), q = anyPerson(), loud = anyLoud(), hour = near(0, 23);
        boolean high = random.nextBoolean();
        if (kind < 30) {
            int what = near(0, 1);
            due("stand " + p + " " + loud, x.stand(p, loud, high, hour, what), m.stand(p, loud, high, hour, what));
        } else if (kind == 30) {
            int minute = random.nextInt(4) == 0 ? near(0, 99) : near(10, 20);
            due("note " + p + " " + minute, x.note(p, minute), m.note(p, minute));
        } else if (kind == 31) due("forget", x.forget(), m.forget());
        else if (kind < 34) {
            int part = near(0, 2);
            due("who " + p + " " + loud + " " + part, x.who(p, loud, high, part), m.who(p, loud, high, part));
        } else if (kind == 34) {
            int what = near(0, 1);
            due("living " + what, x.living(what), m.living(what));
        } else if (kind == 35) {
            int what = near(0, 2);
            due("cancel " + p + " " + q, x.cancel(p, q, high, hour, what), m.cancel(p, q, high, hour, what));
        } else if (kind == 36) {
            int k = near(0, 1);
            due("keep " + k, x.keep(k), m.keep(k));
        } else if (kind == 37) {
            int k = near(0, 1);
            due("back " + k, x.back(k), m.back(k));
        } else if (kind == 38) {
            due("settled", x.settled(), m.settled());
            due("owed " + p + " " + q, x.owed(p, q), m.owed(p, q));
        } else {
            int what = near(0, 10);
            due("count " + what, x.count(what), m.count(what));
            due("fault", x.fault(), m.fault());
        }
    }

    /** Looking does not count as a step, so that runs stay long enough. */
    private void lookAtAll() {
        int before = calls;
        for (int what = 0; what <= 10; what++) due("count " + what, x.count(what), m.count(what));
        for (int p = 0; p < 6; p++) {
            for (int what = 0; what < 3; what++) due("person " + p + " " + what, x.person(p, what), m.person(p, what));
            for (int q = 0; q < 6; q++) due("owed " + p + " " + q, x.owed(p, q), m.owed(p, q));
        }
        for (int cell = 0; cell < m.count(0) * m.count(1); cell++) {
            for (int what = 0; what < 3; what++) due("cell " + cell + " " + what, x.cell(cell, what), m.cell(cell, what));
        }
        due("settled", x.settled(), m.settled());
        calls = before;
    }
}
