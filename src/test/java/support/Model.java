import java.math.BigDecimal;
import java.math.BigInteger;
import java.math.RoundingMode;
import java.util.ArrayDeque;
import java.util.ArrayList;
import java.util.Comparator;
import java.util.Deque;
import java.util.List;
import java.util.Map;
import java.util.TreeMap;
import java.util.TreeSet;

/**
 * The document said once more in another way, slow and plain, with Java's whole library: RandomTest
 * holds SoundingSheet against it. It undoes by copies of all, and looks for ways by lists of squares.
 */
final class Model {
    static final int NONE = -1;
    static final int UNKNOWN = -30000;

    record Boat(int day, int speed, int shift) { }

    record Mark(int kind, int x, int y, int raw, int day, int line, int minute, int gone, int w, int h) {
        int square() {
            return 16 * (y / 16) + x / 16;
        }

        boolean there(int on) {
            return day <= on && on < gone;
        }

        boolean covers(int px, int py) {
            return px >= x && px <= x + w - 1 && py >= y && py <= y + h - 1;
        }

        int squared(Mark o) {
            return (x - o.x) * (x - o.x) + (y - o.y) * (y - o.y);
        }
    }

    record Fraction(BigInteger over, BigInteger under) {
        static Fraction of(long over, long under) {
            return new Fraction(BigInteger.valueOf(over), BigInteger.valueOf(under));
        }

        Fraction plus(Fraction o) {
            return new Fraction(over.multiply(o.under).add(o.over.multiply(under)), under.multiply(o.under));
        }

        Fraction times(long n) {
            return new Fraction(over.multiply(BigInteger.valueOf(n)), under);
        }

        int floor() {
            return new BigDecimal(over).divide(new BigDecimal(under), 0, RoundingMode.FLOOR).intValueExact();
        }
    }

    private static final class State {
        final List<Boat> boats = new ArrayList<>();
        final Map<Integer, TreeMap<Integer, Integer>> tides = new TreeMap<>();
        final List<Mark> marks = new ArrayList<>();

        State copy() {
            State s = new State();
            s.boats.addAll(boats);
            tides.forEach((day, told) -> s.tides.put(day, new TreeMap<>(told)));
            s.marks.addAll(marks);
            return s;
        }
    }

    private State now = new State();
    private State kept = null;
    private final Deque<State> before = new ArrayDeque<>();

    private void act() {
        before.addLast(now.copy());
        if (before.size() > 20) {
            before.removeFirst();
        }
    }

    private static boolean in(int v, int lo, int hi) {
        return lo <= v && v <= hi;
    }

    int line(int day, int speed) {
        if (!in(day, 0, 99) || !in(speed, 1400, 1600) || now.boats.size() == 20) {
            return NONE;
        }
        act();
        now.boats.add(new Boat(day, speed, 0));
        return now.boats.size() - 1;
    }

    int tide(int day, int minute, int height) {
        if (!in(day, 0, 99) || !in(minute, 0, 1439) || !in(height, -100, 200)) {
            return NONE;
        }
        TreeMap<Integer, Integer> told = now.tides.getOrDefault(day, new TreeMap<>());
        if (!told.containsKey(minute) && told.size() == 12) {
            return NONE;
        }
        act();
        now.tides.computeIfAbsent(day, d -> new TreeMap<>()).put(minute, height);
        return now.tides.get(day).size();
    }

    boolean speed(int line, int speed) {
        if (!in(line, 0, now.boats.size() - 1) || !in(speed, 1400, 1600)) {
            return false;
        }
        act();
        Boat b = now.boats.get(line);
        now.boats.set(line, new Boat(b.day, speed, b.shift));
        return true;
    }

    boolean shift(int line, int shift) {
        if (!in(line, 0, now.boats.size() - 1) || !in(shift, -50, 50)) {
            return false;
        }
        act();
        Boat b = now.boats.get(line);
        now.boats.set(line, new Boat(b.day, b.speed, shift));
        return true;
    }

    private int add(Mark m) {
        boolean right = in(m.x, 0, 255) && in(m.y, 0, 255) && in(m.day, 0, 99);
        if (!right || now.marks.size() == 200) {
            return NONE;
        }
        act();
        now.marks.add(m);
        return now.marks.size() - 1;
    }

    private boolean ofLine(int line, int minute) {
        return in(line, 0, now.boats.size() - 1) && in(minute, 0, 1439);
    }

    int lead(int line, int minute, int x, int y, int raw) {
        if (!ofLine(line, minute) || !in(raw, 0, 9999)) {
            return NONE;
        }
        return add(new Mark(0, x, y, raw, now.boats.get(line).day, line, minute, 100, 1, 1));
    }

    int echo(int line, int minute, int x, int y, int bits) {
        float f = Float.intBitsToFloat(bits);
        if (!ofLine(line, minute) || Float.isNaN(f) || !in((int) f, 0, 19999)) {
            return NONE;
        }
        return add(new Mark(1, x, y, (int) f, now.boats.get(line).day, line, minute, 100, 1, 1));
    }

    int sweep(int line, int minute, int x, int y, int w, int h, int raw) {
        boolean within = w >= 1 && h >= 1 && (long) x + w - 1 <= 255 && (long) y + h - 1 <= 255;
        if (!ofLine(line, minute) || !in(raw, 0, 9999) || !within) {
            return NONE;
        }
        return add(new Mark(2, x, y, raw, now.boats.get(line).day, line, minute, 100, w, h));
    }

    int notice(int kind, int day, int x, int y, int raw) {
        if (!in(kind, 3, 5) || !in(raw, kind == 4 ? -200 : 0, kind == 4 ? -1 : 9999)) {
            return NONE;
        }
        return add(new Mark(kind, x, y, raw, day, NONE, NONE, 100, 1, 1));
    }

    boolean gone(int s, int day) {
        if (!in(s, 0, now.marks.size() - 1) || !in(day, 0, 100) || now.marks.get(s).gone == day) {
            return false;
        }
        act();
        Mark m = now.marks.get(s);
        now.marks.set(s, new Mark(m.kind, m.x, m.y, m.raw, m.day, m.line, m.minute, day, m.w, m.h));
        return true;
    }

    int count(int what) {
        return switch (what) {
            case 0 -> now.boats.size();
            case 1 -> now.marks.size();
            case 2 -> (int) now.marks.stream().filter(m -> corrected(m) == null).count();
            case 3 -> before.size();
            default -> NONE;
        };
    }

    int sounding(int s, int what) {
        if (!in(s, 0, now.marks.size() - 1) || !in(what, 0, 10)) {
            return NONE;
        }
        Mark m = now.marks.get(s);
        int waits = corrected(m) == null ? 1 : 0;
        return new int[] {m.kind, m.x, m.y, m.raw, m.day, m.line, m.minute, m.gone, m.w, m.h, waits}[what];
    }

    int depth(int s) {
        Integer d = in(s, 0, now.marks.size() - 1) ? corrected(now.marks.get(s)) : null;
        return d == null ? UNKNOWN : d;
    }

    int boat(int line, int what) {
        if (!in(line, 0, now.boats.size() - 1) || !in(what, 0, 3)) {
            return NONE;
        }
        Boat b = now.boats.get(line);
        int many = (int) now.marks.stream().filter(m -> m.line == line).count();
        return new int[] {b.day, b.speed, b.shift, many}[what];
    }

    private Fraction tideAt(int day, int minute) {
        TreeMap<Integer, Integer> told = now.tides.getOrDefault(day, new TreeMap<>());
        if (told.containsKey(minute)) {
            return Fraction.of(told.get(minute), 1);
        }
        var ahead = told.lowerEntry(minute);
        var behind = told.higherEntry(minute);
        if (ahead == null || behind == null) {
            return null;
        }
        long rise = behind.getValue() - ahead.getValue();
        Fraction part = Fraction.of(rise * (minute - ahead.getKey()), behind.getKey() - ahead.getKey());
        return Fraction.of(ahead.getValue(), 1).plus(part);
    }

    private Integer corrected(Mark m) {
        if (m.kind >= 3) {
            return m.raw;
        }
        Fraction tide = tideAt(m.day, m.minute);
        if (tide == null) {
            return null;
        }
        Boat b = now.boats.get(m.line);
        Fraction raw = m.kind == 1 ? Fraction.of((long) m.raw * b.speed, 2000) : Fraction.of(m.raw, 1);
        return raw.plus(Fraction.of(b.shift, 1)).plus(tide.times(-1)).floor();
    }

    int water(int day, int minute, int times) {
        if (!in(day, 0, 99) || !in(minute, 0, 1439) || !in(times, 1, 1439)) {
            return UNKNOWN;
        }
        Fraction tide = tideAt(day, minute);
        return tide == null ? UNKNOWN : tide.times(times).floor();
    }

    /** Squared distance, a's, b's, miss; null without a CROSSING. */
    private int[] crossing(int a, int b, int u) {
        List<int[]> all = new ArrayList<>();
        for (int i = 0; i < now.marks.size(); i++) {
            for (int j = 0; j < now.marks.size(); j++) {
                Mark m = now.marks.get(i);
                Mark o = now.marks.get(j);
                if (m.line != a || o.line != b || m.kind > 1 || o.kind > 1) {
                    continue;
                }
                if (corrected(m) != null && corrected(o) != null) {
                    all.add(new int[] {m.squared(o), i, j, corrected(m) - corrected(o)});
                }
            }
        }
        all.sort(Comparator.<int[]>comparingInt(c -> c[0]).thenComparingInt(c -> c[1]).thenComparingInt(c -> c[2]));
        return all.isEmpty() || all.get(0)[0] > u * u ? null : all.get(0);
    }

    int cross(int a, int b, int u, int what) {
        int none = what == 3 ? UNKNOWN : NONE;
        boolean lines = in(a, 0, now.boats.size() - 1) && in(b, 0, now.boats.size() - 1) && a < b;
        if (!lines || !in(u, 0, 400) || !in(what, 0, 3)) {
            return none;
        }
        int[] c = crossing(a, b, u);
        return c == null ? none : c[what];
    }

    int worst(int u) {
        if (!in(u, 0, 400)) {
            return NONE;
        }
        int best = NONE;
        int most = NONE;
        for (int l = 0; l < now.boats.size(); l++) {
            int sum = 0;
            int many = 0;
            for (int o = 0; o < now.boats.size(); o++) {
                int[] c = l == o ? null : crossing(Math.min(l, o), Math.max(l, o), u);
                if (c != null) {
                    sum += Math.abs(c[3]);
                    many++;
                }
            }
            if (many > 0 && sum > most) {
                most = sum;
                best = l;
            }
        }
        return best;
    }

    private boolean counts(Mark m, int day) {
        return m.there(day) && corrected(m) != null;
    }

    private List<Integer> found(int day, int square) {
        List<Integer> found = new ArrayList<>();
        for (int s = 0; s < now.marks.size(); s++) {
            Mark m = now.marks.get(s);
            if (m.kind != 2 && m.square() == square && counts(m, day)) {
                found.add(s);
            }
        }
        return found;
    }

    private boolean always(int s, int day) {
        Mark m = now.marks.get(s);
        return m.kind == 3 || m.kind == 4 || now.marks.stream().anyMatch(t -> t.kind == 2 && t.day < m.day
            && counts(t, day) && t.covers(m.x, m.y) && corrected(m) < corrected(t));
    }

    /** Numbers of those SHOWN in order, each with why. */
    private List<int[]> sheet(int day, int n, int square) {
        List<Integer> found = found(day, square);
        List<int[]> out = new ArrayList<>();
        List<Integer> left = new ArrayList<>();
        for (int s : found) {
            if (always(s, day)) {
                out.add(new int[] {s, 0});
            } else {
                left.add(s);
            }
        }
        found.stream().min(Comparator.<Integer>comparingInt(s -> corrected(now.marks.get(s))).thenComparing(s -> s))
            .filter(left::contains).ifPresent(s -> {
                out.add(new int[] {s, 1});
                left.remove(s);
            });
        while (out.size() < n && !left.isEmpty()) {
            Integer far = left.stream().max(Comparator.<Integer>comparingInt(s -> out.stream()
                .mapToInt(o -> now.marks.get(o[0]).squared(now.marks.get(s))).min().getAsInt())
                .thenComparing(s -> -s)).get();
            out.add(new int[] {far, 2});
            left.remove(far);
        }
        return out;
    }

    int shown(int day, int n, int square, int k) {
        if (!in(day, 0, 99) || !in(n, 1, 6) || !in(square, 0, 255)) {
            return NONE;
        }
        List<int[]> all = sheet(day, n, square);
        return in(k, 0, all.size() - 1) ? all.get(k)[0] : NONE;
    }

    int why(int day, int n, int s) {
        if (!in(day, 0, 99) || !in(n, 1, 6) || !in(s, 0, now.marks.size() - 1)) {
            return NONE;
        }
        Mark m = now.marks.get(s);
        if (m.kind == 2) {
            return 3;
        }
        if (!m.there(day)) {
            return 4;
        }
        if (corrected(m) == null) {
            return 5;
        }
        return sheet(day, n, m.square()).stream().filter(o -> o[0] == s).mapToInt(o -> o[1]).findFirst().orElse(6);
    }

    int bottom(int day, int square) {
        if (!in(day, 0, 99) || !in(square, 0, 255)) {
            return UNKNOWN;
        }
        List<Integer> found = found(day, square);
        if (!found.isEmpty()) {
            return found.stream().mapToInt(s -> corrected(now.marks.get(s))).min().getAsInt();
        }
        int x = 16 * (square % 16);
        int y = 16 * (square / 16);
        return now.marks.stream().filter(m -> m.kind == 2 && counts(m, day) && m.covers(x, y) && m.covers(x + 15, y + 15))
            .mapToInt(this::corrected).max().orElse(UNKNOWN);
    }

    private static boolean beside(int a, int b) {
        return Math.abs(a / 16 - b / 16) + Math.abs(a % 16 - b % 16) == 1;
    }

    private static int compare(List<Integer> a, List<Integer> b) {
        for (int i = 0; i < a.size(); i++) {
            if (!a.get(i).equals(b.get(i))) {
                return Integer.compare(a.get(i), b.get(i));
            }
        }
        return 0;
    }

    /** The least of the shortest ways over squares that are at least so deep; null without one. */
    private static List<Integer> shortest(int[] depths, int a, int b, int least) {
        Map<Integer, List<Integer>> best = new TreeMap<>();
        Map<Integer, List<Integer>> rim = new TreeMap<>();
        if (depths[b] != UNKNOWN && depths[b] >= least) {
            rim.put(b, List.of(b));
        }
        while (!rim.isEmpty() && !best.containsKey(a)) {
            best.putAll(rim);
            Map<Integer, List<Integer>> next = new TreeMap<>();
            for (var e : rim.entrySet()) {
                for (int q : new int[] {e.getKey() - 16, e.getKey() - 1, e.getKey() + 1, e.getKey() + 16}) {
                    if (!in(q, 0, 255) || !beside(q, e.getKey()) || best.containsKey(q)) {
                        continue;
                    }
                    if (depths[q] != UNKNOWN && depths[q] >= least) {
                        List<Integer> way = new ArrayList<>(List.of(q));
                        way.addAll(e.getValue());
                        next.merge(q, way, (v, w) -> compare(v, w) <= 0 ? v : w);
                    }
                }
            }
            rim = next;
        }
        return best.get(a);
    }

    private int[] depths(int day) {
        int[] depths = new int[256];
        for (int q = 0; q < 256; q++) {
            depths[q] = bottom(day, q);
        }
        return depths;
    }

    private List<Integer> channel(int day, int a, int b) {
        if (!in(day, 0, 99) || !in(a, 0, 255) || !in(b, 0, 255)) {
            return null;
        }
        int[] depths = depths(day);
        TreeSet<Integer> floors = new TreeSet<>(Comparator.reverseOrder());
        for (int d : depths) {
            floors.add(d);
        }
        for (int floor : floors) {
            List<Integer> way = shortest(depths, a, b, floor);
            if (way != null) {
                return way;
            }
        }
        return null;
    }

    int deepest(int day, int a, int b) {
        List<Integer> way = channel(day, a, b);
        return way == null ? UNKNOWN : way.stream().mapToInt(q -> bottom(day, q)).min().getAsInt();
    }

    int way(int day, int a, int b, int i) {
        List<Integer> way = channel(day, a, b);
        return way == null || !in(i, 0, way.size() - 1) ? NONE : way.get(i);
    }

    int narrow(int day, int a, int b) {
        List<Integer> way = channel(day, a, b);
        if (way == null) {
            return NONE;
        }
        int floor = deepest(day, a, b);
        return way.stream().filter(q -> bottom(day, q) == floor).findFirst().get();
    }

    boolean draught(int day, int a, int b, int d) {
        int floor = deepest(day, a, b);
        return floor != UNKNOWN && floor >= d;
    }

    int check(int day, int square, int d) {
        if (!in(day, 0, 99) || !in(square, 0, 255)) {
            return -2;
        }
        int known = bottom(day, square);
        if (known == UNKNOWN) {
            return 2;
        }
        return known == d ? NONE : known < d ? 0 : 1;
    }

    boolean undo() {
        if (before.isEmpty()) {
            return false;
        }
        now = before.removeLast();
        return true;
    }

    void image() {
        kept = now.copy();
    }

    boolean load() {
        if (kept == null) {
            return false;
        }
        now = kept.copy();
        before.clear();
        return true;
    }
}
