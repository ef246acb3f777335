import java.util.List;

/**
 * Each sentence of the document that bounds an argument, for each call that takes it: the least and
 * the greatest value do what is told, and the values beyond them are refused and change nothing.
 */
public final class EdgesTest {
    private static final Due DUE = new Due();
    private static final int NONE = SoundingSheet.NONE;
    private static final int UNKNOWN = SoundingSheet.UNKNOWN;
    private static final int IT = Edge.IT;
    private static final List<String> BEFORE = Look.at(EdgesTest::office);

    public static void main(String[] args) {
        line();
        tide();
        speedAndShift();
        lead();
        echo();
        echosFloat();
        sweepsPlace();
        sweepsSpan();
        notice();
        gone();
        countSoundingDepthBoat();
        water();
        cross();
        worst();
        shown();
        why();
        bottomAndCheck();
        deepestAndNarrow();
        wayAndDraught();
        DUE.end();
    }

    /**
     * Four lines, eight soundings of all kinds but REPORTED, all squares known from day 0 on; an
     * image that differs from what is there, and five acts that can be undone.
     */
    private static SoundingSheet office() {
        SoundingSheet x = new SoundingSheet();
        int[][] lines = {{0, 1500}, {3, 1500}, {4, 1450}, {50, 1500}};
        for (int[] a : lines) {
            x.line(a[0], a[1]);
        }
        int[][] tides = {{0, 0, 7}, {0, 1439, 8}, {99, 0, 1}, {99, 1439, 200}, {3, 600, 10}, {3, 607, 31},
            {3, 600, 20}, {4, 0, -5}};
        for (int[] a : tides) {
            x.tide(a[0], a[1], a[2]);
        }
        x.sweep(0, 0, 0, 0, 256, 256, 100);
        x.lead(1, 600, 10, 10, 100);
        x.echo(1, 603, 12, 10, bits(120f));
        x.notice(3, 5, 40, 40, 30);
        x.lead(2, 0, 10, 10, 95);
        x.notice(4, 0, 3, 3, -3);
        x.image();
        x.load();
        x.speed(2, 1600);
        x.shift(1, -7);
        x.lead(3, 0, 200, 200, 9);
        x.lead(0, 0, 255, 255, 57);
        x.gone(3, 50);
        return x;
    }

    private static Edge edge(String sentence, String call, int... args) {
        return new Edge(DUE, EdgesTest::office, BEFORE, sentence, call, args);
    }

    private static void line() {
        edge("DAYS 0 to 99", "line", IT, 1500).from(0, 4).to(99, 4).seen(IT, "boat", 4, 0).refused(NONE);
        edge("a SPEED (1400 to 1600)", "line", 50, IT).from(1400, 4).to(1600, 4).seen(IT, "boat", 4, 1).refused(NONE);
        edge("SHIFT, 0 at first", "line", 50, IT).from(1400, 4).to(1600, 4).seen(0, "boat", 4, 2).refused(NONE);
    }

    private static void tide() {
        edge("DAYS 0 to 99", "tide", IT, 5, 6).from(0, 3).to(99, 3).seen(6, "water", IT, 5, 1).refused(NONE);
        edge("MINUTES 0 to 1439", "tide", 50, IT, 6).from(0, 1).to(1439, 1).seen(6, "water", 50, IT, 1).refused(NONE);
        edge("heights (-100 to 200)", "tide", 50, 5, IT).from(-100, 1).to(200, 1).seen(IT, "water", 50, 5, 1)
            .refused(NONE);
        edge("in place of one that was", "tide", 3, 600, IT).from(-100, 2).to(200, 2).seen(IT, "water", 3, 600, 1)
            .refused(NONE);
    }

    private static void speedAndShift() {
        edge("lines that are there", "speed", IT, 1555).from(0, 1).to(3, 1).seen(1555, "boat", IT, 1).refused(0);
        edge("a SPEED (1400 to 1600)", "speed", 1, IT).from(1400, 1).to(1600, 1).seen(IT, "boat", 1, 1).refused(0);
        edge("lines that are there", "shift", IT, 44).from(0, 1).to(3, 1).seen(44, "boat", IT, 2).refused(0);
        edge("a SHIFT (-50 to 50)", "shift", 1, IT).from(-50, 1).to(50, 1).seen(IT, "boat", 1, 2).refused(0);
    }

    private static void lead() {
        edge("lines that are there", "lead", IT, 1, 2, 3, 4).from(0, 8).to(3, 8).seen(IT, "sounding", 8, 5).refused(NONE);
        edge("MINUTES 0 to 1439", "lead", 1, IT, 2, 3, 4).from(0, 8).to(1439, 8).seen(IT, "sounding", 8, 6).refused(NONE);
        edge("x 0 to 255", "lead", 1, 1, IT, 3, 4).from(0, 8).to(255, 8).seen(IT, "sounding", 8, 1).refused(NONE);
        edge("y 0 to 255", "lead", 1, 1, 2, IT, 4).from(0, 8).to(255, 8).seen(IT, "sounding", 8, 2).refused(NONE);
        edge("LEAD (RAW 0 to 9999)", "lead", 1, 1, 2, 3, IT).from(0, 8).to(9999, 8).seen(IT, "sounding", 8, 3)
            .refused(NONE);
    }

    private static void echo() {
        int four = bits(4f);
        edge("lines that are there", "echo", IT, 1, 2, 3, four).from(0, 8).to(3, 8).seen(IT, "sounding", 8, 5)
            .refused(NONE);
        edge("MINUTES 0 to 1439", "echo", 1, IT, 2, 3, four).from(0, 8).to(1439, 8).seen(IT, "sounding", 8, 6)
            .refused(NONE);
        edge("x 0 to 255", "echo", 1, 1, IT, 3, four).from(0, 8).to(255, 8).seen(IT, "sounding", 8, 1).refused(NONE);
        edge("y 0 to 255", "echo", 1, 1, 2, IT, four).from(0, 8).to(255, 8).seen(IT, "sounding", 8, 2).refused(NONE);
    }

    private static void echosFloat() {
        int[][] right = {{0, 0}, {1, 0}, {0x80000000, 0}, {0x80000001, 0}, {bits(1f) - 1, 0}, {bits(1f), 1},
            {bits(-1f) - 1, 0}, {bits(2f) - 1, 1}, {bits(2f), 2}, {bits(19999f) - 1, 19998}, {bits(19999f), 19999},
            {bits(20000f) - 1, 19999}};
        for (int[] r : right) {
            edge("ECHO (RAW 0 to 19999), cut towards 0", "echo", 1, 1, 2, 3, IT).from(r[0], 8).to(r[0], 8)
                .seen(r[1], "sounding", 8, 3).accepted();
        }
        edge("ECHO (RAW 0 to 19999)", "echo", 1, 1, 2, 3, IT).refusedAt(NONE, bits(20000f), bits(20001f), bits(32768f),
            bits(65536f), bits(1e9f), bits(4294967296f), bits(Float.MAX_VALUE), bits(-1f), bits(-2f), bits(-1e9f),
            bits(-Float.MAX_VALUE));
        edge("no number: NONE", "echo", 1, 1, 2, 3, IT).refusedAt(NONE, 0x7f800000, 0xff800000, 0x7f800001, 0xff800001,
            0x7fc00000, 0xffc00000, 0x7fffffff, 0xffffffff);
    }

    private static int bits(float f) {
        return Float.floatToRawIntBits(f);
    }

    private static void sweepsPlace() {
        edge("lines that are there", "sweep", IT, 1, 2, 3, 4, 5, 6).from(0, 8).to(3, 8).seen(IT, "sounding", 8, 5)
            .refused(NONE);
        edge("MINUTES 0 to 1439", "sweep", 1, IT, 2, 3, 4, 5, 6).from(0, 8).to(1439, 8).seen(IT, "sounding", 8, 6)
            .refused(NONE);
        edge("x 0 to 255", "sweep", 1, 1, IT, 3, 1, 5, 6).from(0, 8).to(255, 8).seen(IT, "sounding", 8, 1).refused(NONE);
        edge("y 0 to 255", "sweep", 1, 1, 2, IT, 4, 1, 6).from(0, 8).to(255, 8).seen(IT, "sounding", 8, 2).refused(NONE);
        edge("SWEPT (RAW 0 to 9999)", "sweep", 1, 1, 2, 3, 4, 5, IT).from(0, 8).to(9999, 8).seen(IT, "sounding", 8, 3)
            .refused(NONE);
    }

    private static void sweepsSpan() {
        String within = "a SPAN within 0 to 255";
        edge(within, "sweep", 1, 1, 0, 0, IT, 1, 6).from(1, 8).to(256, 8).seen(IT, "sounding", 8, 8).refused(NONE);
        edge(within, "sweep", 1, 1, 0, 0, 1, IT, 6).from(1, 8).to(256, 8).seen(IT, "sounding", 8, 9).refused(NONE);
        edge(within, "sweep", 1, 1, 250, 0, IT, 256, 6).from(1, 8).to(6, 8).seen(IT, "sounding", 8, 8).refused(NONE);
        edge(within, "sweep", 1, 1, 0, 250, 256, IT, 6).from(1, 8).to(6, 8).seen(IT, "sounding", 8, 9).refused(NONE);
        edge(within, "sweep", 1, 1, IT, 0, 16, 1, 6).from(0, 8).to(240, 8).seen(IT, "sounding", 8, 1).refused(NONE);
        edge(within, "sweep", 1, 1, 0, IT, 1, 16, 6).from(0, 8).to(240, 8).seen(IT, "sounding", 8, 2).refused(NONE);
    }

    private static void notice() {
        String kinds = "a KIND 3 to 5";
        edge(kinds, "notice", IT, 7, 2, 3, 0).from(3, 8).to(5, 8).seen(IT, "sounding", 8, 0).accepted();
        edge(kinds, "notice", IT, 7, 2, 3, 0).refusedAt(NONE, 2, 4, 6, 0, 1, -1, Integer.MIN_VALUE, Integer.MAX_VALUE);
        edge(kinds, "notice", IT, 7, 2, 3, -1).from(4, 8).to(4, 8).seen(4, "sounding", 8, 0).refused(NONE);
        edge("DAYS 0 to 99", "notice", 5, IT, 2, 3, 4).from(0, 8).to(99, 8).seen(IT, "sounding", 8, 4).refused(NONE);
        edge("x 0 to 255", "notice", 5, 7, IT, 3, 4).from(0, 8).to(255, 8).seen(IT, "sounding", 8, 1).refused(NONE);
        edge("y 0 to 255", "notice", 5, 7, 2, IT, 4).from(0, 8).to(255, 8).seen(IT, "sounding", 8, 2).refused(NONE);
        edge("WRECK (RAW 0 to 9999)", "notice", 3, 7, 2, 3, IT).from(0, 8).to(9999, 8).seen(IT, "depth", 8).refused(NONE);
        edge("ROCK (RAW -200 to -1)", "notice", 4, 7, 2, 3, IT).from(-200, 8).to(-1, 8).seen(IT, "depth", 8).refused(NONE);
        edge("REPORTED (RAW 0 to 9999)", "notice", 5, 7, 2, 3, IT).from(0, 8).to(9999, 8).seen(IT, "depth", 8)
            .refused(NONE);
    }

    private static void gone() {
        edge("soundings that are there", "gone", IT, 60).from(0, 1).to(7, 1).seen(60, "sounding", IT, 7).refused(0);
        edge("from a day on (100: never)", "gone", 3, IT).from(0, 1).to(100, 1).seen(IT, "sounding", 3, 7).refused(0);
    }

    private static void countSoundingDepthBoat() {
        edge("what 0 to 3", "count", IT).from(0, 4).to(3, 5).refused(NONE);
        edge("soundings that are there", "sounding", IT, 1).from(0, 0).to(7, 255).refused(NONE);
        edge("what 0 to 10", "sounding", 6, IT).from(0, 0).to(10, 1).refused(NONE);
        edge("soundings that are there", "depth", IT).from(0, 93).to(7, 50).refused(UNKNOWN);
        edge("lines that are there", "boat", IT, 0).from(0, 0).to(3, 50).refused(NONE);
        edge("what 0 to 3", "boat", 1, IT).from(0, 3).to(3, 2).refused(NONE);
    }

    private static void water() {
        edge("DAYS 0 to 99", "water", IT, 0, 2).from(0, 14).to(99, 2).refused(UNKNOWN);
        edge("MINUTES 0 to 1439", "water", 99, IT, 2).from(0, 2).to(1439, 400).refused(UNKNOWN);
        edge("the first and the last told", "water", 3, IT, 7).from(600, 140).to(607, 217).refused(UNKNOWN);
        edge("the one told alone", "water", 4, IT, 3).from(0, -15).to(0, -15).refused(UNKNOWN);
        edge("a whole number (1 to 1439)", "water", 3, 601, IT).from(1, 21).to(1439, 31041).refused(UNKNOWN);
    }

    private static void cross() {
        edge("a there and below b", "cross", IT, 2, 400, 0).from(0, 120050).to(1, 0).refused(NONE);
        edge("a there and below b", "cross", IT, 2, 400, 3).from(0, -50).to(1, -27).refused(UNKNOWN);
        edge("b there, a below it", "cross", 0, IT, 400, 0).from(1, 119074).to(2, 120050).refused(NONE);
        edge("b there, a below it", "cross", 0, IT, 400, 3).from(1, -8).to(2, -50).refused(UNKNOWN);
        edge("within u (0 to 400)", "cross", 1, 2, IT, 0).from(0, 0).to(400, 0).refused(NONE);
        edge("within u (0 to 400)", "cross", 1, 2, IT, 1).from(0, 1).to(400, 1).refused(NONE);
        edge("within u (0 to 400)", "cross", 1, 2, IT, 2).from(0, 4).to(400, 4).refused(NONE);
        edge("within u (0 to 400)", "cross", 1, 2, IT, 3).from(0, -27).to(400, -27).refused(UNKNOWN);
        edge("at most u times u", "cross", 0, 1, IT, 0).from(346, 119074).to(400, 119074).refused(NONE);
        edge("what 0 to 3", "cross", 1, 2, 0, IT).from(0, 0).to(3, -27).refused(NONE);
    }

    private static void worst() {
        edge("within u (0 to 400)", "worst", IT).from(0, 1).to(400, 2).refused(NONE);
    }

    private static void shown() {
        edge("DAYS 0 to 99", "shown", IT, 1, 0, 0).from(0, 5).to(99, 1).refused(NONE);
        edge("n (1 to 6) to a square", "shown", 99, IT, 0, 2).from(1, 5).to(6, 5).refused(NONE);
        edge("fewer than n are SHOWN", "shown", 99, IT, 0, 3).from(4, 4).to(6, 4).refused(NONE);
        edge("squares 0 to 255", "shown", 99, 1, IT, 0).from(0, 1).to(255, 7).refused(NONE);
        edge("the k-th, of three", "shown", 99, 3, 0, IT).from(0, 1).to(2, 5).refused(NONE);
        edge("the k-th, of four", "shown", 99, 4, 0, IT).from(0, 1).to(3, 4).refused(NONE);
    }

    private static void why() {
        edge("DAYS 0 to 99", "why", IT, 1, 5).from(0, 0).to(99, 0).refused(NONE);
        edge("n (1 to 6) to a square", "why", 99, IT, 4).from(1, 6).to(6, 2).refused(NONE);
        edge("soundings that are there", "why", 99, 1, IT).from(0, 3).to(7, 1).refused(NONE);
    }

    private static void bottomAndCheck() {
        edge("DAYS 0 to 99", "bottom", IT, 0).from(0, -3).to(99, -3).refused(UNKNOWN);
        edge("squares 0 to 255", "bottom", 99, IT).from(0, -3).to(255, 50).refused(UNKNOWN);
        edge("DAYS 0 to 99", "check", IT, 0, -3).from(0, NONE).to(99, NONE).refused(-2);
        edge("squares 0 to 255", "check", 99, IT, -3).from(0, NONE).to(255, 1).refused(-2);
    }

    private static void deepestAndNarrow() {
        edge("DAYS 0 to 99", "deepest", IT, 1, 2).from(0, 93).to(99, 93).refused(UNKNOWN);
        edge("squares 0 to 255", "deepest", 99, IT, 1).from(0, -3).to(255, 50).refused(UNKNOWN);
        edge("squares 0 to 255", "deepest", 99, 1, IT).from(0, -3).to(255, 50).refused(UNKNOWN);
        edge("DAYS 0 to 99", "narrow", IT, 1, 2).from(0, 1).to(99, 1).refused(NONE);
        edge("squares 0 to 255", "narrow", 99, IT, 1).from(0, 0).to(255, 255).refused(NONE);
        edge("squares 0 to 255", "narrow", 99, 1, IT).from(0, 0).to(255, 255).refused(NONE);
    }

    private static void wayAndDraught() {
        edge("DAYS 0 to 99", "way", IT, 1, 2, 1).from(0, 2).to(99, 2).refused(NONE);
        edge("squares 0 to 255", "way", 99, IT, 1, 0).from(0, 0).to(255, 255).refused(NONE);
        edge("squares 0 to 255", "way", 99, 1, IT, 0).from(0, 1).to(255, 1).refused(NONE);
        edge("the i-th square (0 is a)", "way", 99, 1, 2, IT).from(0, 1).to(1, 2).refused(NONE);
        edge("the only square", "way", 99, 255, 255, IT).from(0, 255).to(0, 255).refused(NONE);
        edge("DAYS 0 to 99", "draught", IT, 1, 2, 93).from(0, 1).to(99, 1).refused(0);
        edge("squares 0 to 255", "draught", 99, IT, 1, -3).from(0, 1).to(255, 1).refused(0);
        edge("squares 0 to 255", "draught", 99, 1, IT, -3).from(0, 1).to(255, 1).refused(0);
    }
}
