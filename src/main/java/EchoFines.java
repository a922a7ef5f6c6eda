import java.util.Arrays;

/**
 * Fines for echoes in a canyon. Every row that a call needs is made with the object and used again,
 * so that no call makes anything.
 */
public final class EchoFines {
    public static final int NONE = -1, UNKNOWN = -2, OUTSIDE = -3, NOT = -4, FULL = -5;

    private static final int ACCEPTED = 0;
    private static final int MOST_SIDE = 6;
    private static final int MOST_CELLS = MOST_SIDE * MOST_SIDE;
    private static final int PERSONS = 6;
    private static final int MOST_LAWS = 6;
    private static final int MOST_LOUD = 99;
    private static final int HOURS = 24;
    private static final int MOST_TICKS = 60;
    private static final int WAYS = 8;
    private static final int MINUTES = 100;
    private static final int MOST_CRIES = 20;
    private static final int MOST_NOTES = 12;
    private static final int MOST_PAID = 9999;
    private static final int MOST_CANCEL_LOUD = 40;
    /** Debts may be below nothing, answers may not: they are told with this added. */
    private static final int LIFT = 100000000;

    private final Text text = new Text();
    private final Reader reader = new Reader();
    private final Canyon scene = new Canyon();
    private final Canyon trial = new Canyon();
    private final Book book = new Book();
    private final Image firstImage = new Image();
    private final Image secondImage = new Image();
    private final Wave wave = new Wave();
    private final Wave otherWave = new Wave();
    private final Bill bill = new Bill();
    private final Guess guess = new Guess();
    private final Settling settling = new Settling();
    private final int[] totals = new int[MOST_CELLS];
    private final int[] answers = new int[MOST_CANCEL_LOUD + 1];

    public EchoFines() {
    }

    // ---- what is told

    public int write(long bytes, int n) {
        if (n < 1 || n > 8) return OUTSIDE;
        if (text.length + n > Text.MOST_BYTES) return FULL;
        for (int i = 0; i < n; i++) text.append((int) (bytes >> 8 * i & 255));
        return text.length;
    }

    public int erase() {
        int had = text.length;
        text.length = 0;
        return had;
    }

    public int fault() {
        trial.copyFrom(scene);
        return reader.read(text, trial);
    }

    public int canyon() {
        trial.copyFrom(scene);
        if (reader.read(text, trial) != NONE) return NOT;
        scene.copyFrom(trial);
        text.length = 0;
        book.clear();
        firstImage.kept = false;
        secondImage.kept = false;
        return reader.lines;
    }

    public int cell(int cell, int what) {
        if (!scene.has(cell)) return UNKNOWN;
        switch (what) {
            case 0: return scene.isRock(cell) ? 1 : 0;
            case 1: return scene.softOf(cell);
            case 2: return scene.personsAt(cell);
            default: return OUTSIDE;
        }
    }

    public int person(int person, int what) {
        if (!isPerson(person)) return UNKNOWN;
        switch (what) {
            case 0: return scene.windowOf(person);
            case 1: return LIFT + book.netOf(person);
            case 2: return book.criesOf(person);
            default: return OUTSIDE;
        }
    }

    public int law(int law, int what) {
        if (law < 0 || what < 0 || what > 2) return OUTSIDE;
        if (law >= scene.laws) return NONE;
        return scene.lawPart(law, what);
    }

    // ---- cries

    public int cry(int person, int loud, boolean high, int hour) {
        int refusal = refusalOfCry(person, loud, hour);
        if (refusal != ACCEPTED) return refusal;
        if (book.cries >= MOST_CRIES) return FULL;
        int from = scene.windowOf(person);
        int cost = costFrom(person, from, loud, high, hour);
        int times = scene.timesIn(hour);
        for (int other = 0; other < PERSONS; other++) {
            if (other != person) book.owe(person, other, bill.dueAt(scene.windowOf(other)) * times);
        }
        book.addCry(person, loud, high, hour);
        return cost;
    }

    public int costs(int person, int loud, boolean high, int hour) {
        int refusal = refusalOfCry(person, loud, hour);
        if (refusal != ACCEPTED) return refusal;
        return costFrom(person, scene.windowOf(person), loud, high, hour);
    }

    public int sounds(int from, int loud, boolean high, int to, int what) {
        if (!scene.has(from) || !scene.has(to)) return UNKNOWN;
        if (!isLoud(loud) || what < 0 || what > 3) return OUTSIDE;
        if (scene.isRock(from) || scene.isRock(to)) return NOT;
        wave.spread(scene, from, loud, high);
        switch (what) {
            case 0: return wave.comingTo(to, 0);
            case 1: return wave.comingTo(to, 1);
            case 2: return wave.firstTickAt(to);
            default: return wave.greatestLoudAt(to);
        }
    }

    public int led(int from, int loud, boolean high, int i, int what) {
        if (!scene.has(from)) return UNKNOWN;
        if (!isLoud(loud) || i < 0 || what < 0 || what > 4) return OUTSIDE;
        if (scene.isRock(from)) return NOT;
        wave.spread(scene, from, loud, high);
        int before = 0;
        for (int tick = 1; tick <= MOST_TICKS; tick++) {
            for (int way = 0; way < WAYS; way++) {
                int persons = scene.personsAt(Wave.cellOf(wave.soundOf(way, tick)));
                int many = Integer.bitCount(persons);
                if (i - before < many) return ledPart(way, tick, bitAt(persons, i - before), what);
                before += many;
            }
        }
        return NONE;
    }

    public int whisper(int from, int loud, boolean high) {
        if (!scene.has(from)) return UNKNOWN;
        if (!isLoud(loud)) return OUTSIDE;
        if (scene.isRock(from)) return NOT;
        wave.spread(scene, from, loud, high);
        int heard = scene.personsAt(from);
        for (int way = 0; way < WAYS; way++) {
            for (int tick = 1; tick <= wave.lastTickOf(way); tick++) {
                heard |= scene.personsAt(Wave.cellOf(wave.soundOf(way, tick)));
            }
        }
        return heard;
    }

    public int owed(int one, int other) {
        if (!isPerson(one) || !isPerson(other)) return UNKNOWN;
        if (one == other) return OUTSIDE;
        return LIFT + book.debt(one, other);
    }

    public int pay(int one, int other, int n) {
        if (!isPerson(one) || !isPerson(other)) return UNKNOWN;
        if (one == other || n < 1 || n > MOST_PAID) return OUTSIDE;
        if (book.debt(one, other) < n) return NOT;
        book.owe(one, other, -n);
        return LIFT + book.debt(one, other);
    }

    public int settled() {
        return settling.fewestPayments(book);
    }

    // ---- where, what changes

    public int stand(int person, int loud, boolean high, int hour, int what) {
        if (!isPerson(person)) return UNKNOWN;
        if (!isLoud(loud) || !isHour(hour) || what < 0 || what > 1) return OUTSIDE;
        if (scene.windowOf(person) == NONE) return NOT;
        int best = NONE;
        int least = 0;
        for (int cell = 0; cell < scene.cells(); cell++) {
            if (!scene.isFloor(cell)) continue;
            int cost = costFrom(person, cell, loud, high, hour);
            if (best == NONE || cost < least) {
                best = cell;
                least = cost;
            }
        }
        return what == 0 ? best : least;
    }

    public int fall(int cell) {
        if (!scene.has(cell)) return UNKNOWN;
        scene.flip(cell);
        return scene.isRock(cell) ? 1 : 0;
    }

    public int changed(int cell, int from, int loud, boolean high) {
        if (!scene.has(cell) || !scene.has(from)) return UNKNOWN;
        if (!isLoud(loud) || cell == from) return OUTSIDE;
        if (scene.isRock(from)) return NOT;
        trial.copyFrom(scene);
        trial.flip(cell);
        wave.spread(scene, from, loud, high);
        otherWave.spread(trial, from, loud, high);
        int bits = 0;
        for (int person = 0; person < PERSONS; person++) {
            int window = scene.windowOf(person);
            if (window == NONE || window == cell) continue;
            if (!wave.sameAt(window, otherWave)) bits |= 1 << person;
        }
        return bits;
    }

    // ---- notes

    public int note(int person, int minute) {
        if (!isPerson(person)) return UNKNOWN;
        if (minute < 0 || minute >= MINUTES) return OUTSIDE;
        if (book.notes >= MOST_NOTES) return FULL;
        book.addNote(person, minute);
        return book.notes;
    }

    public int forget() {
        int had = book.notes;
        book.notes = 0;
        return had;
    }

    public int who(int person, int loud, boolean high, int part) {
        if (!isPerson(person)) return UNKNOWN;
        if (!isLoud(loud) || part < 0 || part > 2) return OUTSIDE;
        if (scene.windowOf(person) == NONE) return NOT;
        int own = minutesThatFit(person, loud, high);
        if (part == 2) return own;
        int all = 0;
        for (int one = 0; one < PERSONS; one++) all += minutesThatFit(one, loud, high);
        if (all < 1) return NOT;
        int divisor = commonDivisor(own, all);
        if (divisor < 1) return NOT;
        return part == 0 ? own / divisor : all / divisor;
    }

    public int living(int what) {
        if (what < 0 || what > 1) return OUTSIDE;
        addUpAllCries();
        int best = NONE;
        int most = NONE;
        for (int cell = 0; cell < scene.cells(); cell++) {
            if (!scene.isFloor(cell) || totals[cell] <= most) continue;
            best = cell;
            most = totals[cell];
        }
        return what == 0 ? best : most;
    }

    public int cancel(int one, int other, boolean high, int hour, int what) {
        if (!isPerson(one) || !isPerson(other)) return UNKNOWN;
        if (one == other || !isHour(hour) || what < 0 || what > 2) return OUTSIDE;
        if (scene.windowOf(one) == NONE || scene.windowOf(other) == NONE) return NOT;
        for (int b = 1; b <= MOST_CANCEL_LOUD; b++) answers[b] = fineTo(one, other, b, high, hour);
        for (int a = 1; a <= MOST_CANCEL_LOUD; a++) {
            int fine = fineTo(other, one, a, high, hour);
            int b = fine == 0 ? NONE : loudThatAnswers(fine);
            if (b == NONE) continue;
            return what == 0 ? a : what == 1 ? b : fine;
        }
        return NONE;
    }

    public int keep(int k) {
        Image image = imageOf(k);
        if (image == null) return UNKNOWN;
        image.canyon.copyFrom(scene);
        image.book.copyFrom(book);
        image.kept = true;
        return book.cries;
    }

    public int back(int k) {
        Image image = imageOf(k);
        if (image == null) return UNKNOWN;
        if (!image.kept) return NOT;
        scene.copyFrom(image.canyon);
        book.copyFrom(image.book);
        return book.cries;
    }

    public int count(int what) {
        switch (what) {
            case 0: return scene.columns;
            case 1: return scene.rows;
            case 2: return scene.rocks();
            case 3: return scene.personsSomewhere();
            case 4: return scene.laws;
            case 5: return book.cries;
            case 6: return book.notes;
            case 7: return scene.fade;
            case 8: return text.length;
            case 9: return scene.nightHours;
            case 10: return scene.nightTimes;
            default: return OUTSIDE;
        }
    }

    // ---- what the calls have in common

    private static boolean isPerson(int person) {
        return person >= 0 && person < PERSONS;
    }

    private static boolean isLoud(int loud) {
        return loud >= 1 && loud <= MOST_LOUD;
    }

    private static boolean isHour(int hour) {
        return hour >= 0 && hour < HOURS;
    }

    private int refusalOfCry(int person, int loud, int hour) {
        if (!isPerson(person)) return UNKNOWN;
        if (!isLoud(loud) || !isHour(hour)) return OUTSIDE;
        return scene.windowOf(person) == NONE ? NOT : ACCEPTED;
    }

    /** The bill stays drawn up for this cry afterwards. */
    private int costFrom(int person, int from, int loud, boolean high, int hour) {
        wave.spread(scene, from, loud, high);
        bill.drawUp(scene, wave);
        int cost = 0;
        for (int other = 0; other < PERSONS; other++) {
            if (other != person) cost += bill.dueAt(scene.windowOf(other));
        }
        return cost * scene.timesIn(hour);
    }

    private int fineTo(int hearer, int crier, int loud, boolean high, int hour) {
        wave.spread(scene, scene.windowOf(crier), loud, high);
        bill.drawUp(scene, wave);
        return bill.dueAt(scene.windowOf(hearer)) * scene.timesIn(hour);
    }

    private int loudThatAnswers(int fine) {
        for (int b = 1; b <= MOST_CANCEL_LOUD; b++) {
            if (answers[b] == fine) return b;
        }
        return NONE;
    }

    private int ledPart(int way, int tick, int person, int what) {
        int sound = wave.soundOf(way, tick);
        switch (what) {
            case 0: return person;
            case 1: return tick;
            case 2: return Wave.loudOf(sound);
            case 3: return Wave.thrownOf(sound);
            default: return way;
        }
    }

    /** Which bit the i-th set bit is, from 0. */
    private static int bitAt(int bits, int i) {
        int before = 0;
        for (int bit = 0; bit < PERSONS; bit++) {
            if ((bits >> bit & 1) == 0) continue;
            if (before == i) return bit;
            before++;
        }
        return NONE;
    }

    private int minutesThatFit(int person, int loud, boolean high) {
        int window = scene.windowOf(person);
        if (window == NONE) return 0;
        wave.spread(scene, window, loud, high);
        guess.listen(wave);
        return guess.minutesFor(person, scene, book);
    }

    private static int commonDivisor(int one, int other) {
        int a = one;
        int b = other;
        for (int i = 0; i < 64 && b != 0; i++) {
            int rest = a % b;
            a = b;
            b = rest;
        }
        return a;
    }

    private void addUpAllCries() {
        Arrays.fill(totals, 0);
        for (int i = 0; i < book.cries; i++) {
            int from = scene.windowOf(book.crierOf(i));
            if (from == NONE) continue;
            wave.spread(scene, from, book.loudOf(i), book.isHigh(i));
            bill.drawUp(scene, wave);
            int times = scene.timesIn(book.hourOf(i));
            for (int cell = 0; cell < MOST_CELLS; cell++) totals[cell] += bill.dueAt(cell) * times;
        }
    }

    private Image imageOf(int k) {
        return k == 0 ? firstImage : k == 1 ? secondImage : null;
    }

    /** The bytes that were written and not yet done. */
    private static final class Text {
        static final int MOST_BYTES = 200;

        private final int[] bytes = new int[MOST_BYTES];
        int length = 0;

        void append(int value) {
            if (length < 0 || length >= MOST_BYTES) return;
            bytes[length] = value;
            length++;
        }

        int byteAt(int place) {
            return place < 0 || place >= length || place >= MOST_BYTES ? NONE : bytes[place];
        }
    }

    /** Reads a text to its first fault, doing its lines on a canyon as it goes. */
    private static final class Reader {
        private static final int MOST_LINES = 10;
        private static final int MOST_PARTS = 3;
        private static final int MOST_DIGITS = 2;
        private static final int END = 0, WORD = 1, NUMBER = 2, BETWEEN = 3, OTHER = 4;
        private static final int NO_LINE = 0, PLAN = 1, ROCK = 2, FLOOR = 3, AT = 4, GONE = 5;
        private static final int LAW = 6, FREE = 7, NIGHT = 8, FADE = 9;

        private Text text = null;
        private int sort = END;
        private int start = 0;
        private int end = 0;
        private final int[] parts = new int[MOST_PARTS];
        int lines = 0;

        /** The place of the first fault, or NONE; the canyon is of use only if there is none. */
        int read(Text told, Canyon canyon) {
            text = told;
            end = 0;
            lines = 0;
            for (int i = 0; i < MOST_LINES; i++) {
                nextToken();
                if (!readLine(canyon)) return start;
                lines++;
                nextToken();
                if (sort == END) return NONE;
                if (sort != BETWEEN) return start;
            }
            return start;
        }

        private void nextToken() {
            start = end;
            for (int i = 0; i < Text.MOST_BYTES && byteAt(start) == ' '; i++) start++;
            sort = sortOf(byteAt(start));
            end = start;
            if (sort == END) return;
            end++;
            if (sort != WORD && sort != NUMBER) return;
            for (int i = 0; i < Text.MOST_BYTES && sortOf(byteAt(end)) == sort; i++) end++;
        }

        private int byteAt(int place) {
            return text == null ? NONE : text.byteAt(place);
        }

        private static int sortOf(int value) {
            if (value == NONE) return END;
            if (value >= 'a' && value <= 'z') return WORD;
            if (value >= '0' && value <= '9') return NUMBER;
            return value == ';' ? BETWEEN : OTHER;
        }

        private boolean readLine(Canyon canyon) {
            int line = lineOf();
            if (line == NO_LINE || line == LAW && canyon.laws >= MOST_LAWS) return false;
            String forms = formsOf(line);
            for (int i = 0; i < forms.length() && i < MOST_PARTS; i++) {
                nextToken();
                int form = forms.charAt(i);
                parts[i] = form == 'T' ? letterTold() : numberTold();
                if (!isWithin(form, parts[i], canyon)) return false;
            }
            carryOut(line, canyon);
            return true;
        }

        private int lineOf() {
            if (sort != WORD) return NO_LINE;
            if (isWord("plan")) return PLAN;
            if (isWord("rock")) return ROCK;
            if (isWord("floor")) return FLOOR;
            if (isWord("at")) return AT;
            if (isWord("gone")) return GONE;
            if (isWord("law")) return LAW;
            if (isWord("free")) return FREE;
            if (isWord("night")) return NIGHT;
            return isWord("fade") ? FADE : NO_LINE;
        }

        private boolean isWord(String word) {
            if (end - start != word.length()) return false;
            for (int i = 0; i < word.length(); i++) {
                if (byteAt(start + i) != word.charAt(i)) return false;
            }
            return true;
        }

        /** A sign for each part of a line: isWithin says what it stands for. */
        private static String formsOf(int line) {
            switch (line) {
                case PLAN: return "WW";
                case ROCK: return "XYS";
                case FLOOR: return "XY";
                case AT: return "TXF";
                case GONE: return "T";
                case LAW: return "LDL";
                case NIGHT: return "HHN";
                case FADE: return "A";
                default: return "";
            }
        }

        private boolean isWithin(int form, int value, Canyon canyon) {
            switch (form) {
                case 'W': return value >= 1 && value <= MOST_SIDE;
                case 'X': return value >= 0 && value < canyon.columns;
                case 'Y': return value >= 0 && value < canyon.rows;
                case 'F': return canyon.isFloor(canyon.cellAt(parts[1], value));
                case 'S': return value >= 0 && value <= 99;
                case 'T': return value >= 0 && value < PERSONS;
                case 'L': return value >= 1 && value <= 99;
                case 'D': return value >= 0 && value <= MOST_TICKS;
                case 'H': return value >= 0 && value < HOURS;
                case 'N': return value >= 1 && value <= 9;
                case 'A': return value >= 0 && value <= 9;
                default: return false;
            }
        }

        private int letterTold() {
            return sort == WORD && end - start == 1 ? byteAt(start) - 'a' : NONE;
        }

        private int numberTold() {
            if (sort != NUMBER || end - start > MOST_DIGITS) return NONE;
            int value = 0;
            for (int i = start; i < end; i++) value = value * 10 + byteAt(i) - '0';
            return value;
        }

        private void carryOut(int line, Canyon canyon) {
            int first = parts[0];
            int second = parts[1];
            int third = parts[2];
            switch (line) {
                case PLAN: canyon.lay(first, second); break;
                case ROCK: canyon.putRock(canyon.cellAt(first, second), third); break;
                case FLOOR: canyon.putFloor(canyon.cellAt(first, second)); break;
                case AT: canyon.place(first, canyon.cellAt(second, third)); break;
                case GONE: canyon.place(first, NONE); break;
                case LAW: canyon.addLaw(first, second, third); break;
                case FREE: canyon.laws = 0; break;
                case NIGHT: canyon.setNight(first, second, third); break;
                case FADE: canyon.fade = first; break;
                default: break;
            }
        }
    }

    /** Cells, windows, laws, night and fade: all that texts tell. */
    private static final class Canyon {
        private static final int FLOOR = -1;
        private static final int LAW_PARTS = 3;
        private static final int[] COLUMNS_ON = {0, 1, 1, 1, 0, -1, -1, -1};
        private static final int[] ROWS_ON = {-1, -1, 0, 1, 1, 1, 0, -1};

        int columns = 4;
        int rows = 4;
        int fade = 1;
        int laws = 0;
        int nightHours = 0;
        int nightTimes = 1;
        /** How soft a rock is, or FLOOR. */
        private final int[] ground = new int[MOST_CELLS];
        private final int[] windows = new int[PERSONS];
        private final int[] lawParts = new int[MOST_LAWS * LAW_PARTS];

        Canyon() {
            Arrays.fill(ground, FLOOR);
            Arrays.fill(windows, NONE);
        }

        void copyFrom(Canyon other) {
            columns = other.columns;
            rows = other.rows;
            fade = other.fade;
            laws = other.laws;
            nightHours = other.nightHours;
            nightTimes = other.nightTimes;
            for (int i = 0; i < MOST_CELLS; i++) ground[i] = other.ground[i];
            for (int i = 0; i < PERSONS; i++) windows[i] = other.windows[i];
            for (int i = 0; i < MOST_LAWS * LAW_PARTS; i++) lawParts[i] = other.lawParts[i];
        }

        int cells() {
            return columns * rows;
        }

        boolean has(int cell) {
            return cell >= 0 && cell < columns * rows && cell < MOST_CELLS;
        }

        int cellAt(int column, int row) {
            if (column < 0 || column >= columns || row < 0 || row >= rows) return NONE;
            return columns * row + column;
        }

        private int columnOf(int cell) {
            return columns < 1 ? 0 : cell % columns;
        }

        private int rowOf(int cell) {
            return columns < 1 ? 0 : cell / columns;
        }

        boolean isRock(int cell) {
            return has(cell) && ground[cell] != FLOOR;
        }

        boolean isFloor(int cell) {
            return has(cell) && ground[cell] == FLOOR;
        }

        int softOf(int cell) {
            return has(cell) ? Math.max(0, ground[cell]) : 0;
        }

        int rocks() {
            int many = 0;
            for (int cell = 0; cell < cells(); cell++) {
                if (isRock(cell)) many++;
            }
            return many;
        }

        void lay(int wide, int high) {
            columns = wide;
            rows = high;
            Arrays.fill(ground, FLOOR);
            Arrays.fill(windows, NONE);
        }

        void putRock(int cell, int soft) {
            if (!has(cell)) return;
            ground[cell] = soft;
            for (int person = 0; person < PERSONS; person++) {
                if (windows[person] == cell) windows[person] = NONE;
            }
        }

        void putFloor(int cell) {
            if (has(cell)) ground[cell] = FLOOR;
        }

        void flip(int cell) {
            if (isRock(cell)) putFloor(cell);
            else putRock(cell, 0);
        }

        void place(int person, int cell) {
            if (isPerson(person)) windows[person] = cell;
        }

        int windowOf(int person) {
            return isPerson(person) ? windows[person] : NONE;
        }

        /** Nobody is at a place that is no cell, so that NONE may be asked for too. */
        int personsAt(int cell) {
            if (!has(cell)) return 0;
            int bits = 0;
            for (int person = 0; person < PERSONS; person++) {
                if (windows[person] == cell) bits |= 1 << person;
            }
            return bits;
        }

        int personsSomewhere() {
            int bits = 0;
            for (int person = 0; person < PERSONS; person++) {
                if (windows[person] != NONE) bits |= 1 << person;
            }
            return bits;
        }

        void addLaw(int loud, int late, int coins) {
            if (laws < 0 || laws >= MOST_LAWS) return;
            lawParts[laws * LAW_PARTS] = loud;
            lawParts[laws * LAW_PARTS + 1] = late;
            lawParts[laws * LAW_PARTS + 2] = coins;
            laws++;
        }

        int lawPart(int law, int part) {
            if (law < 0 || law >= laws || law >= MOST_LAWS || part < 0 || part >= LAW_PARTS) return NONE;
            return lawParts[law * LAW_PARTS + part];
        }

        /** What the first law that fits asks for one echo by day. */
        int coinsFor(int loud, int tick) {
            for (int law = 0; law < laws; law++) {
                if (loud >= lawPart(law, 0) && tick >= lawPart(law, 1)) return lawPart(law, 2);
            }
            return 0;
        }

        void setNight(int from, int to, int times) {
            nightHours = 0;
            nightTimes = times;
            int hour = from;
            for (int i = 0; i < HOURS && hour != to; i++) {
                nightHours |= 1 << hour;
                hour = (hour + 1) % HOURS;
            }
        }

        int timesIn(int hour) {
            return (nightHours >> hour & 1) == 1 ? nightTimes : 1;
        }

        /** The cell that lies ahead, or NONE. */
        int ahead(int cell, int way) {
            return cellAt(columnOf(cell) + COLUMNS_ON[way & 7], rowOf(cell) + ROWS_ON[way & 7]);
        }

        /** The way on which a sound goes that is thrown back at a cell. */
        int wayBack(int cell, int way) {
            int round = (way + 4) & 7;
            if ((way & 1) == 0) return round;
            boolean byColumn = isRock(cellAt(columnOf(cell) + COLUMNS_ON[way & 7], rowOf(cell)));
            boolean byRow = isRock(cellAt(columnOf(cell), rowOf(cell) + ROWS_ON[way & 7]));
            if (byColumn == byRow) return round;
            return byColumn ? (8 - way) & 7 : (12 - way) & 7;
        }

        int loudThrownBack(int rock, int loud, boolean high) {
            int hundredths = high ? Math.min(100, 2 * softOf(rock)) : softOf(rock);
            return loud - loud * hundredths / 100;
        }
    }

    /** All sounds of one cry: one number for each way and tick, 0 where none comes anywhere. */
    private static final class Wave {
        private static final int CELL_BITS = 6, LOUD_BITS = 7;
        private static final int CELL_MASK = (1 << CELL_BITS) - 1, LOUD_MASK = (1 << LOUD_BITS) - 1;

        private final int[] marks = new int[WAYS * MOST_TICKS];
        /** For how many ticks each way goes on; marks behind these are of older cries. */
        private final int[] lasting = new int[WAYS];

        void spread(Canyon canyon, int from, int loud, boolean high) {
            for (int way = 0; way < WAYS; way++) lasting[way] = follow(canyon, way, from, loud, high);
        }

        private int follow(Canyon canyon, int begun, int from, int loud, boolean high) {
            int way = begun;
            int cell = from;
            int left = loud;
            int thrown = 0;
            for (int tick = 1; tick <= MOST_TICKS; tick++) {
                int ahead = canyon.ahead(cell, way);
                int mark = 0;
                if (ahead == NONE) return tick - 1;
                if (canyon.isRock(ahead)) {
                    left = canyon.loudThrownBack(ahead, left, high);
                    way = canyon.wayBack(cell, way);
                    thrown++;
                } else {
                    cell = ahead;
                    left -= canyon.fade;
                    mark = soundFrom(cell, left, thrown);
                }
                if (left < 1) return tick - 1;
                marks[begun * MOST_TICKS + tick - 1] = mark;
            }
            return MOST_TICKS;
        }

        private static int soundFrom(int cell, int loud, int thrown) {
            return (thrown << LOUD_BITS | loud) << CELL_BITS | cell + 1;
        }

        static int cellOf(int sound) {
            return (sound & CELL_MASK) - 1;
        }

        static int loudOf(int sound) {
            return sound >> CELL_BITS & LOUD_MASK;
        }

        static int thrownOf(int sound) {
            return sound >> CELL_BITS + LOUD_BITS;
        }

        int soundOf(int way, int tick) {
            if (way < 0 || way >= WAYS || tick < 1 || tick > lasting[way]) return 0;
            return marks[way * MOST_TICKS + tick - 1];
        }

        int lastTickOf(int way) {
            return way < 0 || way >= WAYS ? 0 : lasting[way];
        }

        int comingTo(int cell, int leastThrown) {
            int many = 0;
            for (int way = 0; way < WAYS; way++) {
                for (int tick = 1; tick <= lasting[way]; tick++) {
                    int sound = soundOf(way, tick);
                    if (cellOf(sound) == cell && thrownOf(sound) >= leastThrown) many++;
                }
            }
            return many;
        }

        int firstTickAt(int cell) {
            for (int tick = 1; tick <= MOST_TICKS; tick++) {
                for (int way = 0; way < WAYS; way++) {
                    if (cellOf(soundOf(way, tick)) == cell) return tick;
                }
            }
            return NONE;
        }

        int greatestLoudAt(int cell) {
            int greatest = NONE;
            for (int way = 0; way < WAYS; way++) {
                for (int tick = 1; tick <= lasting[way]; tick++) {
                    int sound = soundOf(way, tick);
                    if (cellOf(sound) == cell) greatest = Math.max(greatest, loudOf(sound));
                }
            }
            return greatest;
        }

        /** Whether the same sounds come to a cell, each as often, whatever their ways. */
        boolean sameAt(int cell, Wave other) {
            for (int tick = 1; tick <= MOST_TICKS; tick++) {
                for (int way = 0; way < WAYS; way++) {
                    if (!asOften(soundOf(way, tick), cell, tick, other)) return false;
                    if (!asOften(other.soundOf(way, tick), cell, tick, other)) return false;
                }
            }
            return true;
        }

        private boolean asOften(int sound, int cell, int tick, Wave other) {
            if (cellOf(sound) != cell) return true;
            return howOften(sound, tick) == other.howOften(sound, tick);
        }

        private int howOften(int sound, int tick) {
            int often = 0;
            for (int way = 0; way < WAYS; way++) {
                if (soundOf(way, tick) == sound) often++;
            }
            return often;
        }
    }

    /** What the echoes of one cry come to by day, at each cell. */
    private static final class Bill {
        private final int[] due = new int[MOST_CELLS];

        void drawUp(Canyon canyon, Wave wave) {
            Arrays.fill(due, 0);
            for (int way = 0; way < WAYS; way++) {
                for (int tick = 1; tick <= wave.lastTickOf(way); tick++) {
                    int sound = wave.soundOf(way, tick);
                    int cell = Wave.cellOf(sound);
                    if (cell < 0 || cell >= MOST_CELLS || Wave.thrownOf(sound) < 1) continue;
                    due[cell] += canyon.coinsFor(Wave.loudOf(sound), tick);
                }
            }
        }

        /** Nothing at a place that is no cell, so that NONE may be asked for too. */
        int dueAt(int cell) {
            return cell < 0 || cell >= MOST_CELLS ? 0 : due[cell];
        }
    }

    /** In which ticks a cry is heard at each cell, and which minutes of it the notes allow. */
    private static final class Guess {
        private final long[] ticksHeard = new long[MOST_CELLS];

        void listen(Wave wave) {
            Arrays.fill(ticksHeard, 0L);
            for (int way = 0; way < WAYS; way++) {
                for (int tick = 1; tick <= wave.lastTickOf(way); tick++) {
                    int cell = Wave.cellOf(wave.soundOf(way, tick));
                    if (cell >= 0 && cell < MOST_CELLS) ticksHeard[cell] |= 1L << tick;
                }
            }
        }

        int minutesFor(int crier, Canyon canyon, Book book) {
            int many = 0;
            for (int minute = 0; minute < MINUTES; minute++) {
                if (fits(crier, minute, canyon, book)) many++;
            }
            return many;
        }

        private boolean fits(int crier, int minute, Canyon canyon, Book book) {
            for (int i = 0; i < book.notes; i++) {
                int hearer = book.hearerOf(i);
                int tick = book.minuteOf(i) - minute;
                if (hearer == crier || !isHeard(canyon.windowOf(hearer), tick)) return false;
            }
            return true;
        }

        private boolean isHeard(int cell, int tick) {
            if (cell < 0 || cell >= MOST_CELLS || tick < 1 || tick > MOST_TICKS) return false;
            return (ticksHeard[cell] >> tick & 1) == 1;
        }
    }

    /** Debts, cries and notes. */
    private static final class Book {
        /** What one owes another, less what that one owes it, so each debt stands here twice. */
        private final int[] debts = new int[PERSONS * PERSONS];
        private final int[] criers = new int[MOST_CRIES];
        private final int[] louds = new int[MOST_CRIES];
        private final boolean[] highs = new boolean[MOST_CRIES];
        private final int[] hours = new int[MOST_CRIES];
        private final int[] hearers = new int[MOST_NOTES];
        private final int[] minutes = new int[MOST_NOTES];
        int cries = 0;
        int notes = 0;

        void clear() {
            Arrays.fill(debts, 0);
            cries = 0;
            notes = 0;
        }

        void copyFrom(Book other) {
            for (int i = 0; i < PERSONS * PERSONS; i++) debts[i] = other.debts[i];
            for (int i = 0; i < MOST_CRIES; i++) {
                criers[i] = other.criers[i];
                louds[i] = other.louds[i];
                highs[i] = other.highs[i];
                hours[i] = other.hours[i];
            }
            for (int i = 0; i < MOST_NOTES; i++) {
                hearers[i] = other.hearers[i];
                minutes[i] = other.minutes[i];
            }
            cries = other.cries;
            notes = other.notes;
        }

        int debt(int one, int other) {
            return isPerson(one) && isPerson(other) ? debts[one * PERSONS + other] : 0;
        }

        void owe(int one, int other, int coins) {
            if (!isPerson(one) || !isPerson(other)) return;
            debts[one * PERSONS + other] += coins;
            debts[other * PERSONS + one] -= coins;
        }

        int netOf(int person) {
            int net = 0;
            for (int other = 0; other < PERSONS; other++) net += debt(other, person);
            return net;
        }

        void addCry(int crier, int loud, boolean high, int hour) {
            if (cries < 0 || cries >= MOST_CRIES) return;
            criers[cries] = crier;
            louds[cries] = loud;
            highs[cries] = high;
            hours[cries] = hour;
            cries++;
        }

        private static boolean isCry(int i) {
            return i >= 0 && i < MOST_CRIES;
        }

        int crierOf(int i) {
            return isCry(i) ? criers[i] : NONE;
        }

        int loudOf(int i) {
            return isCry(i) ? louds[i] : 0;
        }

        boolean isHigh(int i) {
            return isCry(i) && highs[i];
        }

        int hourOf(int i) {
            return isCry(i) ? hours[i] : 0;
        }

        int criesOf(int person) {
            int many = 0;
            for (int i = 0; i < cries; i++) {
                if (crierOf(i) == person) many++;
            }
            return many;
        }

        void addNote(int hearer, int minute) {
            if (notes < 0 || notes >= MOST_NOTES) return;
            hearers[notes] = hearer;
            minutes[notes] = minute;
            notes++;
        }

        private static boolean isNote(int i) {
            return i >= 0 && i < MOST_NOTES;
        }

        int hearerOf(int i) {
            return isNote(i) ? hearers[i] : NONE;
        }

        int minuteOf(int i) {
            return isNote(i) ? minutes[i] : 0;
        }
    }

    /** The fewest payments: persons less the most groups whose nets come to nothing within each. */
    private static final class Settling {
        private static final int SETS = 1 << PERSONS;

        private final int[] sums = new int[SETS];
        private final int[] groups = new int[SETS];

        int fewestPayments(Book book) {
            sums[0] = 0;
            groups[0] = 0;
            for (int set = 1; set < SETS; set++) weigh(set, book);
            return PERSONS - groups[SETS - 1];
        }

        private void weigh(int set, Book book) {
            int most = 0;
            for (int person = 0; person < PERSONS; person++) {
                if ((set >> person & 1) == 0) continue;
                int rest = set ^ 1 << person;
                sums[set] = sums[rest] + book.netOf(person);
                most = Math.max(most, groups[rest]);
            }
            groups[set] = sums[set] == 0 ? most + 1 : most;
        }
    }

    /** What back goes on from; laws, night and fade cannot change between keep and back. */
    private static final class Image {
        final Canyon canyon = new Canyon();
        final Book book = new Book();
        boolean kept = false;
    }
}
