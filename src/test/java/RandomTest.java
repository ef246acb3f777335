import java.util.Random;

/** All promises: long runs of calls drawn from fixed seeds, held against the plain Model. */
public final class RandomTest {
    private static final int RUNS = 400;
    /** A turn makes at most a dozen calls, and an object is good for 512. */
    private static final int CALLS = 500;
    private static final Due DUE = new Due();
    private static final int[] STRANGE = {-1, 256, 100, 1440, -101, 201, 10000, 20, 200, -30000, 65536,
        Integer.MIN_VALUE, Integer.MAX_VALUE, Integer.MAX_VALUE - 1};

    private final Random random;
    private final SoundingSheet x = new SoundingSheet();
    private final Model m = new Model();
    private final String name;
    /** Small bounds crowd days, places and minutes, so that things meet. */
    private final int days;
    private final int places;
    private final int minutes;
    private final int strangeOneIn;
    private final boolean loads;
    private int calls = 0;

    private RandomTest(int seed) {
        random = new Random(seed);
        name = "seed " + seed + ": ";
        days = new int[] {1, 3, 6, 100}[random.nextInt(4)];
        places = new int[] {5, 32, 64, 256}[random.nextInt(4)];
        minutes = new int[] {2, 10, 60, 1440}[random.nextInt(4)];
        strangeOneIn = new int[] {20, 100, 1000}[random.nextInt(3)];
        loads = random.nextInt(3) == 0;
    }

    public static void main(String[] args) {
        for (int seed = 0; seed < RUNS && DUE.wrong() == 0; seed++) {
            new RandomTest(seed).run();
        }
        DUE.end();
    }

    private void run() {
        for (int i = 0; calls < CALLS && DUE.wrong() < 5; i++) {
            int die = random.nextInt(100);
            if (i < 12 || die < 45) {
                act(i < 12 ? i % 2 : random.nextInt(20));
            } else if (die < 50) {
                history(random.nextInt(10));
            } else {
                ask(random.nextInt(17));
            }
        }
    }

    private int pick(int least, int most) {
        if (random.nextInt(strangeOneIn) == 0) {
            int[] edges = {least - 1, least, most, most + 1};
            return random.nextBoolean() ? edges[random.nextInt(4)] : STRANGE[random.nextInt(STRANGE.length)];
        }
        return least + random.nextInt(most - least + 1);
    }

    private int day() {
        return pick(0, days - 1);
    }

    private int minute() {
        return pick(0, minutes - 1);
    }

    private int place() {
        return pick(0, places - 1);
    }

    private int line() {
        return pick(0, Math.max(0, m.count(0) - 1));
    }

    private int mark() {
        return pick(0, Math.max(0, m.count(1) - 1));
    }

    private int square() {
        int side = Math.max(1, places / 16);
        return random.nextInt(strangeOneIn) == 0 ? pick(0, 255) : 16 * random.nextInt(side) + random.nextInt(side);
    }

    private int units() {
        return random.nextBoolean() ? pick(0, 400) : pick(0, 9);
    }

    private int raw() {
        return random.nextBoolean() ? pick(0, 60) : pick(0, 9999);
    }

    private int bits() {
        if (random.nextInt(strangeOneIn) == 0) {
            return random.nextInt();
        }
        return Float.floatToRawIntBits(random.nextBoolean() ? raw() + random.nextFloat() : -2 + 20003 * random.nextFloat());
    }

    private void is(String call, long got, long want) {
        calls++;
        DUE.is(name + call, got, want);
    }

    private void act(int which) {
        int l = line();
        int t = minute();
        int d = day();
        int px = place();
        int py = place();
        int r = raw();
        switch (which) {
            case 0 -> { int v = pick(1400, 1600); is("line", x.line(d, v), m.line(d, v)); }
            case 1, 2, 3 -> { int v = pick(-100, 200); is("tide", x.tide(d, t, v), m.tide(d, t, v)); }
            case 4 -> { int v = pick(1400, 1600); is("speed", b(x.speed(l, v)), b(m.speed(l, v))); }
            case 5 -> { int v = pick(-50, 50); is("shift", b(x.shift(l, v)), b(m.shift(l, v))); }
            case 6, 7, 8, 9 -> is("lead", x.lead(l, t, px, py, r), m.lead(l, t, px, py, r));
            case 10, 11, 12 -> { int v = bits(); is("echo " + v, x.echo(l, t, px, py, v), m.echo(l, t, px, py, v)); }
            case 13, 14 -> sweep(l, t, px, py, r);
            case 15, 16, 17 -> notice(d, px, py, r);
            default -> { int s = mark(); int g = random.nextBoolean() ? d : 100; is("gone", b(x.gone(s, g)), b(m.gone(s, g))); }
        }
    }

    private void sweep(int l, int t, int px, int py, int r) {
        boolean whole = random.nextBoolean();
        int sx = whole ? px / 16 * 16 : px;
        int sy = whole ? py / 16 * 16 : py;
        int w = whole ? 16 * pick(1, 3) : pick(1, Math.max(1, 256 - Math.max(0, sx)));
        int h = whole ? 16 * pick(1, 3) : pick(1, Math.max(1, 256 - Math.max(0, sy)));
        is("sweep", x.sweep(l, t, sx, sy, w, h, r), m.sweep(l, t, sx, sy, w, h, r));
    }

    private void notice(int d, int px, int py, int r) {
        int kind = pick(3, 5);
        int v = kind == 4 ? pick(-200, -1) : r;
        is("notice", x.notice(kind, d, px, py, v), m.notice(kind, d, px, py, v));
    }

    private void history(int which) {
        if (which == 0) {
            calls++;
            x.image();
            m.image();
        } else if (which == 1 && loads) {
            is("load", b(x.load()), b(m.load()));
        } else {
            for (int i = random.nextInt(4); i >= 0; i--) {
                is("undo", b(x.undo()), b(m.undo()));
            }
        }
    }

    private void ask(int which) {
        int d = day();
        int n = pick(1, 6);
        int s = mark();
        int q = square();
        int o = square();
        switch (which) {
            case 0 -> { int w = pick(0, 3); is("count " + w, x.count(w), m.count(w)); }
            case 1 -> { int w = pick(0, 10); is("sounding " + w, x.sounding(s, w), m.sounding(s, w)); }
            case 2, 3 -> is("depth " + s, x.depth(s), m.depth(s));
            case 4 -> { int l = line(); int w = pick(0, 3); is("boat", x.boat(l, w), m.boat(l, w)); }
            case 5 -> { int t = minute(); int k = pick(1, 1439); is("water", x.water(d, t, k), m.water(d, t, k)); }
            case 6 -> { int l = line(); int k = line(); cross(Math.min(l, k), Math.max(l, k)); }
            case 7 -> { int u = units(); is("worst " + u, x.worst(u), m.worst(u)); }
            case 8, 9 -> { int k = pick(0, 7); is("shown", x.shown(d, n, q, k), m.shown(d, n, q, k)); }
            case 10 -> is("why", x.why(d, n, s), m.why(d, n, s));
            case 11 -> is("bottom", x.bottom(d, q), m.bottom(d, q));
            case 12 -> is("deepest", x.deepest(d, q, o), m.deepest(d, q, o));
            case 13 -> way(d, q, o);
            case 14 -> is("narrow", x.narrow(d, q, o), m.narrow(d, q, o));
            case 15 -> { int v = near(m.deepest(d, q, o)); is("draught", b(x.draught(d, q, o, v)), b(m.draught(d, q, o, v))); }
            default -> { int v = near(m.bottom(d, q)); is("check", x.check(d, q, v), m.check(d, q, v)); }
        }
    }

    private void cross(int a, int b) {
        int u = random.nextBoolean() ? 400 : units();
        for (int w = 0; w < 4; w++) {
            is("cross " + w, x.cross(a, b, u, w), m.cross(a, b, u, w));
        }
        int w = pick(0, 3);
        is("cross " + w + " the other way", x.cross(b, a, u, w), m.cross(b, a, u, w));
    }

    private void way(int d, int q, int o) {
        for (int i = 0; i < 9 && (i == 0 || m.way(d, q, o, i - 1) != Model.NONE); i++) {
            is("way " + i, x.way(d, q, o, i), m.way(d, q, o, i));
        }
        int far = pick(0, 20);
        is("way " + far, x.way(d, q, o, far), m.way(d, q, o, far));
    }

    private int near(int depth) {
        return depth == Model.UNKNOWN ? pick(-10, 10) : depth - 1 + random.nextInt(3);
    }

    private static int b(boolean v) {
        return v ? 1 : 0;
    }
}
