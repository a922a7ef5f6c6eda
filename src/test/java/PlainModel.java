import java.util.ArrayList;
import java.util.Arrays;
import java.util.Collections;
import java.util.List;
import java.util.regex.Matcher;
import java.util.regex.Pattern;

/**
 * The document once more, as plainly as the Java library allows and in another way than the class:
 * grids of two dimensions, lists of sounds, texts cut by a pattern. ModelTest holds the two against
 * each other.
 */
final class PlainModel {
    private static final int NONE = -1, UNKNOWN = -2, OUTSIDE = -3, NOT = -4, FULL = -5;
    private static final Pattern TOKEN = Pattern.compile("[a-z]+|[0-9]+|[^ ]", Pattern.DOTALL);

    record Sound(int tick, int way, int x, int y, int loud, int thrown) { }
    record Cry(int person, int loud, boolean high, int hour) { }
    record Note(int person, int minute) { }
    record Law(int loud, int late, int coins) { }
    record Token(String word, int place) { }

    /** What texts tell, and what keep keeps; copied whole. */
    static final class State {
        int w = 4, h = 4, fade = 1, times = 1;
        boolean[] night = new boolean[24];
        Integer[][] rock = new Integer[4][4]; // [y][x]: soft, or null for floor
        int[][] at = new int[6][]; // x, y, or null
        List<Law> laws = new ArrayList<>();
        int[][] owes = new int[6][6];
        List<Cry> cries = new ArrayList<>();
        List<Note> notes = new ArrayList<>();

        State copy() {
            State s = new State();
            s.w = w;
            s.h = h;
            s.fade = fade;
            s.times = times;
            s.night = night.clone();
            s.rock = new Integer[h][];
            for (int y = 0; y < h; y++) s.rock[y] = rock[y].clone();
            s.at = at.clone();
            s.laws = new ArrayList<>(laws);
            s.owes = new int[6][];
            for (int i = 0; i < 6; i++) s.owes[i] = owes[i].clone();
            s.cries = new ArrayList<>(cries);
            s.notes = new ArrayList<>(notes);
            return s;
        }
    }

    private StringBuilder text = new StringBuilder();
    private State now = new State();
    private final State[] kept = new State[2];

    // ---- the text

    int write(long bytes, int n) {
        if (n < 1 || n > 8) return OUTSIDE;
        if (text.length() + n > 200) return FULL;
        for (int i = 0; i < n; i++) text.append((char) (bytes >> 8 * i & 255));
        return text.length();
    }

    int erase() {
        int had = text.length();
        text = new StringBuilder();
        return had;
    }

    private static final class Fault extends RuntimeException {
        final int place;

        Fault(int place) {
            super(null, null, false, false);
            this.place = place;
        }
    }

    private List<Token> tokens;
    private int next;
    private State then;
    private int lines;

    private Token take() {
        return next < tokens.size() ? tokens.get(next++) : new Token("", text.length());
    }

    private int number(int low, int high) {
        Token t = take();
        if (!t.word().matches("[0-9]{1,2}")) throw new Fault(t.place());
        int value = Integer.parseInt(t.word());
        if (value < low || value > high) throw new Fault(t.place());
        return value;
    }

    private int letter() {
        Token t = take();
        if (!t.word().matches("[a-f]")) throw new Fault(t.place());
        return t.word().charAt(0) - 'a';
    }

    private void line() {
        Token t = take();
        switch (t.word()) {
            case "plan" -> {
                then.w = number(1, 6);
                then.h = number(1, 6);
                then.rock = new Integer[then.h][then.w];
                then.at = new int[6][];
            }
            case "rock" -> {
                int x = number(0, then.w - 1);
                int y = number(0, then.h - 1);
                then.rock[y][x] = number(0, 99);
                chase(then, x, y);
            }
            case "floor" -> {
                int x = number(0, then.w - 1);
                then.rock[number(0, then.h - 1)][x] = null;
            }
            case "at" -> {
                int who = letter();
                int x = number(0, then.w - 1);
                int place = next < tokens.size() ? tokens.get(next).place() : text.length();
                int y = number(0, then.h - 1);
                if (then.rock[y][x] != null) throw new Fault(place);
                then.at[who] = new int[] {x, y};
            }
            case "gone" -> then.at[letter()] = null;
            case "law" -> {
                if (then.laws.size() == 6) throw new Fault(t.place());
                int loud = number(1, 99);
                int late = number(0, 60);
                then.laws.add(new Law(loud, late, number(1, 99)));
            }
            case "free" -> then.laws.clear();
            case "night" -> {
                int a = number(0, 23);
                int b = number(0, 23);
                then.times = number(1, 9);
                Arrays.fill(then.night, false);
                if (a <= b) Arrays.fill(then.night, a, b, true);
                else {
                    Arrays.fill(then.night, a, 24, true);
                    Arrays.fill(then.night, 0, b, true);
                }
            }
            case "fade" -> then.fade = number(0, 9);
            default -> throw new Fault(t.place());
        }
    }

    private static void chase(State s, int x, int y) {
        for (int p = 0; p < 6; p++) {
            if (s.at[p] != null && s.at[p][0] == x && s.at[p][1] == y) s.at[p] = null;
        }
    }

    int fault() {
        tokens = new ArrayList<>();
        Matcher m = TOKEN.matcher(text);
        while (m.find()) tokens.add(new Token(m.group(), m.start()));
        next = 0;
        lines = 0;
        then = now.copy();
        try {
            while (true) {
                line();
                lines++;
                if (next == tokens.size()) return NONE;
                Token t = take();
                if (!t.word().equals(";") || lines == 10) throw new Fault(t.place());
            }
        } catch (Fault f) {
            return f.place;
        }
    }

    int canyon() {
        if (fault() != NONE) return NOT;
        now = then;
        now.owes = new int[6][6];
        now.cries.clear();
        now.notes.clear();
        kept[0] = null;
        kept[1] = null;
        erase();
        return lines;
    }

    // ---- what is there

    private boolean isCell(int cell) {
        return cell >= 0 && cell < now.w * now.h;
    }

    private boolean isRock(int cell) {
        return now.rock[cell / now.w][cell % now.w] != null;
    }

    private static boolean isPerson(int p) {
        return p >= 0 && p <= 5;
    }

    private static boolean within(int value, int low, int high) {
        return value >= low && value <= high;
    }

    private int cellOf(int p) {
        return now.at[p] == null ? NONE : now.w * now.at[p][1] + now.at[p][0];
    }

    int cell(int cell, int what) {
        if (!isCell(cell)) return UNKNOWN;
        if (!within(what, 0, 2)) return OUTSIDE;
        if (what == 0) return isRock(cell) ? 1 : 0;
        if (what == 1) return isRock(cell) ? now.rock[cell / now.w][cell % now.w] : 0;
        int bits = 0;
        for (int p = 0; p < 6; p++) bits += cellOf(p) == cell ? 1 << p : 0;
        return bits;
    }

    private int net(int p) {
        int net = 0;
        for (int q = 0; q < 6; q++) net += now.owes[q][p] - now.owes[p][q];
        return net;
    }

    int person(int p, int what) {
        if (!isPerson(p)) return UNKNOWN;
        if (!within(what, 0, 2)) return OUTSIDE;
        if (what == 0) return cellOf(p);
        if (what == 1) return net(p) + 100000000;
        return (int) now.cries.stream().filter(c -> c.person() == p).count();
    }

    int law(int law, int what) {
        if (law < 0 || !within(what, 0, 2)) return OUTSIDE;
        if (law >= now.laws.size()) return NONE;
        Law l = now.laws.get(law);
        return what == 0 ? l.loud() : what == 1 ? l.late() : l.coins();
    }

    // ---- sounds

    private static boolean rockAt(State s, int x, int y) {
        return x >= 0 && y >= 0 && x < s.w && y < s.h && s.rock[y][x] != null;
    }

    private static List<Sound> sounds(State s, int from, int cried, boolean high) {
        int[][] ways = {{0, -1}, {1, -1}, {1, 0}, {1, 1}, {0, 1}, {-1, 1}, {-1, 0}, {-1, -1}};
        List<Sound> all = new ArrayList<>();
        for (int way = 0; way < 8; way++) {
            int x = from % s.w, y = from / s.w, dx = ways[way][0], dy = ways[way][1];
            int loud = cried, thrown = 0;
            for (int tick = 1; tick <= 60 && loud >= 1; tick++) {
                int nx = x + dx, ny = y + dy;
                if (nx < 0 || ny < 0 || nx >= s.w || ny >= s.h) break;
                if (rockAt(s, nx, ny)) {
                    int part = s.rock[ny][nx] * (high ? 2 : 1);
                    loud -= loud * Math.min(part, 100) / 100;
                    thrown++;
                    boolean column = dy != 0 && dx != 0 && rockAt(s, nx, y);
                    boolean row = dy != 0 && dx != 0 && rockAt(s, x, ny);
                    if (column && !row) dx = -dx;
                    else if (row && !column) dy = -dy;
                    else {
                        dx = -dx;
                        dy = -dy;
                    }
                } else {
                    x = nx;
                    y = ny;
                    loud -= s.fade;
                    if (loud >= 1) all.add(new Sound(tick, way, x, y, loud, thrown));
                }
            }
        }
        return all;
    }

    private static List<Sound> soundsTo(State s, int from, int loud, boolean high, int to) {
        List<Sound> there = new ArrayList<>();
        for (Sound one : sounds(s, from, loud, high)) {
            if (one.y() * s.w + one.x() == to) there.add(one);
        }
        return there;
    }

    /** What a window at a cell gets by a cry at another. */
    private int fine(int from, int to, int loud, boolean high, int hour) {
        int sum = 0;
        for (Sound s : soundsTo(now, from, loud, high, to)) {
            if (s.thrown() == 0) continue;
            for (Law l : now.laws) {
                if (s.loud() >= l.loud() && s.tick() >= l.late()) {
                    sum += l.coins() * (now.night[hour] ? now.times : 1);
                    break;
                }
            }
        }
        return sum;
    }

    private int costAt(int p, int from, int loud, boolean high, int hour) {
        int sum = 0;
        for (int q = 0; q < 6; q++) {
            if (q != p && now.at[q] != null) sum += fine(from, cellOf(q), loud, high, hour);
        }
        return sum;
    }

    int costs(int p, int loud, boolean high, int hour) {
        if (!isPerson(p)) return UNKNOWN;
        if (!within(loud, 1, 99) || !within(hour, 0, 23)) return OUTSIDE;
        if (now.at[p] == null) return NOT;
        return costAt(p, cellOf(p), loud, high, hour);
    }

    int cry(int p, int loud, boolean high, int hour) {
        int cost = costs(p, loud, high, hour);
        if (cost < 0) return cost;
        if (now.cries.size() == 20) return FULL;
        for (int q = 0; q < 6; q++) {
            if (q != p && now.at[q] != null) now.owes[p][q] += fine(cellOf(p), cellOf(q), loud, high, hour);
        }
        now.cries.add(new Cry(p, loud, high, hour));
        return cost;
    }

    int sounds(int from, int loud, boolean high, int to, int what) {
        if (!isCell(from) || !isCell(to)) return UNKNOWN;
        if (!within(loud, 1, 99) || !within(what, 0, 3)) return OUTSIDE;
        if (isRock(from) || isRock(to)) return NOT;
        List<Sound> there = soundsTo(now, from, loud, high, to);
        return switch (what) {
            case 0 -> there.size();
            case 1 -> (int) there.stream().filter(s -> s.thrown() > 0).count();
            case 2 -> there.stream().mapToInt(Sound::tick).min().orElse(NONE);
            default -> there.stream().mapToInt(Sound::loud).max().orElse(NONE);
        };
    }

    int led(int from, int loud, boolean high, int i, int what) {
        if (!isCell(from)) return UNKNOWN;
        if (!within(loud, 1, 99) || i < 0 || !within(what, 0, 4)) return OUTSIDE;
        if (isRock(from)) return NOT;
        List<int[]> rows = new ArrayList<>();
        for (int p = 0; p < 6; p++) {
            if (now.at[p] == null) continue;
            for (Sound s : soundsTo(now, from, loud, high, cellOf(p))) {
                rows.add(new int[] {p, s.tick(), s.loud(), s.thrown(), s.way()});
            }
        }
        rows.sort((a, b) -> a[1] != b[1] ? a[1] - b[1] : a[4] != b[4] ? a[4] - b[4] : a[0] - b[0]);
        return i < rows.size() ? rows.get(i)[what] : NONE;
    }

    int whisper(int from, int loud, boolean high) {
        if (!isCell(from)) return UNKNOWN;
        if (!within(loud, 1, 99)) return OUTSIDE;
        if (isRock(from)) return NOT;
        int bits = 0;
        for (int p = 0; p < 6; p++) {
            if (now.at[p] == null) continue;
            if (cellOf(p) == from || !soundsTo(now, from, loud, high, cellOf(p)).isEmpty()) bits |= 1 << p;
        }
        return bits;
    }

    int owed(int one, int other) {
        if (!isPerson(one) || !isPerson(other)) return UNKNOWN;
        if (one == other) return OUTSIDE;
        return now.owes[one][other] - now.owes[other][one] + 100000000;
    }

    int pay(int one, int other, int n) {
        if (!isPerson(one) || !isPerson(other)) return UNKNOWN;
        if (one == other || !within(n, 1, 9999)) return OUTSIDE;
        if (owed(one, other) - 100000000 < n) return NOT;
        now.owes[other][one] += n;
        return owed(one, other);
    }

    /** By trying: who is first not square pays, or is paid by, any other with the other sign. */
    private static int fewest(int[] nets, int from) {
        int first = from;
        while (first < 6 && nets[first] == 0) first++;
        if (first == 6) return 0;
        int best = Integer.MAX_VALUE;
        for (int q = first + 1; q < 6; q++) {
            if (Integer.signum(nets[q]) != -Integer.signum(nets[first])) continue;
            nets[q] += nets[first];
            best = Math.min(best, 1 + fewest(nets, first + 1));
            nets[q] -= nets[first];
        }
        return best;
    }

    int settled() {
        int[] nets = new int[6];
        for (int p = 0; p < 6; p++) nets[p] = net(p);
        return fewest(nets, 0);
    }

    // ---- where, what changes

    int stand(int p, int loud, boolean high, int hour, int what) {
        if (!isPerson(p)) return UNKNOWN;
        if (!within(loud, 1, 99) || !within(hour, 0, 23) || !within(what, 0, 1)) return OUTSIDE;
        if (now.at[p] == null) return NOT;
        List<int[]> rows = new ArrayList<>();
        for (int cell = 0; cell < now.w * now.h; cell++) {
            if (!isRock(cell)) rows.add(new int[] {costAt(p, cell, loud, high, hour), cell});
        }
        rows.sort((a, b) -> a[0] != b[0] ? a[0] - b[0] : a[1] - b[1]);
        return rows.get(0)[1 - what];
    }

    private static void turn(State s, int cell) {
        int x = cell % s.w, y = cell / s.w;
        s.rock[y][x] = s.rock[y][x] == null ? 0 : null;
        if (s.rock[y][x] != null) chase(s, x, y);
    }

    int fall(int cell) {
        if (!isCell(cell)) return UNKNOWN;
        turn(now, cell);
        return isRock(cell) ? 1 : 0;
    }

    private static List<String> heard(State s, int from, int loud, boolean high, int to) {
        List<String> all = new ArrayList<>();
        for (Sound one : soundsTo(s, from, loud, high, to)) all.add(one.tick() + " " + one.loud() + " " + one.thrown());
        Collections.sort(all);
        return all;
    }

    int changed(int cell, int from, int loud, boolean high) {
        if (!isCell(cell) || !isCell(from)) return UNKNOWN;
        if (!within(loud, 1, 99) || cell == from) return OUTSIDE;
        if (isRock(from)) return NOT;
        State other = now.copy();
        turn(other, cell);
        int bits = 0;
        for (int p = 0; p < 6; p++) {
            int to = cellOf(p);
            if (to == NONE || to == cell) continue;
            if (!heard(now, from, loud, high, to).equals(heard(other, from, loud, high, to))) bits |= 1 << p;
        }
        return bits;
    }

    // ---- notes

    int note(int p, int minute) {
        if (!isPerson(p)) return UNKNOWN;
        if (!within(minute, 0, 99)) return OUTSIDE;
        if (now.notes.size() == 12) return FULL;
        now.notes.add(new Note(p, minute));
        return now.notes.size();
    }

    int forget() {
        int had = now.notes.size();
        now.notes.clear();
        return had;
    }

    private int fitting(int p, int loud, boolean high) {
        if (now.at[p] == null) return 0;
        int many = 0;
        List<List<Sound>> heard = new ArrayList<>();
        for (int q = 0; q < 6; q++) {
            heard.add(now.at[q] == null ? List.of() : soundsTo(now, cellOf(p), loud, high, cellOf(q)));
        }
        for (int minute = 0; minute <= 99; minute++) {
            int m = minute;
            if (now.notes.stream().allMatch(n -> n.person() != p
                && heard.get(n.person()).stream().anyMatch(s -> s.tick() + m == n.minute()))) many++;
        }
        return many;
    }

    int who(int p, int loud, boolean high, int part) {
        if (!isPerson(p)) return UNKNOWN;
        if (!within(loud, 1, 99) || !within(part, 0, 2)) return OUTSIDE;
        if (now.at[p] == null) return NOT;
        int own = fitting(p, loud, high);
        if (part == 2) return own;
        int all = 0;
        for (int q = 0; q < 6; q++) all += fitting(q, loud, high);
        if (all == 0) return NOT;
        for (int d = all; d > 1; d--) {
            if (own % d == 0 && all % d == 0) {
                own /= d;
                all /= d;
            }
        }
        return part == 0 ? own : all;
    }

    int living(int what) {
        if (!within(what, 0, 1)) return OUTSIDE;
        int best = NONE, most = NONE;
        for (int cell = now.w * now.h - 1; cell >= 0; cell--) {
            if (isRock(cell)) continue;
            int sum = 0;
            for (Cry c : now.cries) {
                if (now.at[c.person()] != null) sum += fine(cellOf(c.person()), cell, c.loud(), c.high(), c.hour());
            }
            if (sum >= most) {
                most = sum;
                best = cell;
            }
        }
        return what == 0 ? best : most;
    }

    int cancel(int one, int other, boolean high, int hour, int what) {
        if (!isPerson(one) || !isPerson(other)) return UNKNOWN;
        if (one == other || !within(hour, 0, 23) || !within(what, 0, 2)) return OUTSIDE;
        if (now.at[one] == null || now.at[other] == null) return NOT;
        for (int a = 1; a <= 40; a++) {
            int fine = fine(cellOf(one), cellOf(other), a, high, hour);
            if (fine == 0) continue;
            for (int b = 1; b <= 40; b++) {
                if (fine(cellOf(other), cellOf(one), b, high, hour) == fine) return what == 0 ? a : what == 1 ? b : fine;
            }
        }
        return NONE;
    }

    int keep(int k) {
        if (k != 0 && k != 1) return UNKNOWN;
        kept[k] = now.copy();
        return now.cries.size();
    }

    int back(int k) {
        if (k != 0 && k != 1) return UNKNOWN;
        if (kept[k] == null) return NOT;
        now = kept[k].copy();
        return now.cries.size();
    }

    int count(int what) {
        int bits = 0;
        switch (what) {
            case 0: return now.w;
            case 1: return now.h;
            case 2:
                for (int cell = 0; cell < now.w * now.h; cell++) bits += isRock(cell) ? 1 : 0;
                return bits;
            case 3:
                for (int p = 0; p < 6; p++) bits += now.at[p] != null ? 1 << p : 0;
                return bits;
            case 4: return now.laws.size();
            case 5: return now.cries.size();
            case 6: return now.notes.size();
            case 7: return now.fade;
            case 8: return text.length();
            case 9:
                for (int hour = 0; hour < 24; hour++) bits += now.night[hour] ? 1 << hour : 0;
                return bits;
            case 10: return now.times;
            default: return OUTSIDE;
        }
    }
}
