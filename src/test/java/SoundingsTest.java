/** Promises 6 to 13: lead, echo, sweep, notice, gone, count, sounding, depth. */
public final class SoundingsTest {
    private static final Due DUE = new Due();
    private static final int NONE = SoundingSheet.NONE;
    private static final int UNKNOWN = SoundingSheet.UNKNOWN;

    public static void main(String[] args) {
        leadHasItsEdges();
        echoCutsFloats();
        echoHasItsEdges();
        sweepStaysWithin();
        noticeGoesByKind();
        twoHundredAreTheMost();
        goneChangesOnlyWhatWasNotSo();
        countCountsThoseThatWait();
        soundingTellsAll();
        depthIsCutDown();
        depthFollowsItsLine();
        aWholeNumberStays();
        fractionsAreExact();
        depthAtItsFarthest();
        waitsOutsideOfTheHeights();
        thereFromItsDayOn();
        DUE.end();
    }

    private static SoundingSheet withLine() {
        SoundingSheet x = new SoundingSheet();
        x.line(3, 1500);
        return x;
    }

    private static void leadHasItsEdges() {
        SoundingSheet x = withLine();
        int[][] wrong = {{-1, 0, 0, 0, 0}, {1, 0, 0, 0, 0}, {0, -1, 0, 0, 0}, {0, 1440, 0, 0, 0}, {0, 0, -1, 0, 0},
            {0, 0, 256, 0, 0}, {0, 0, 0, -1, 0}, {0, 0, 0, 256, 0}, {0, 0, 0, 0, -1}, {0, 0, 0, 0, 10000},
            {Integer.MAX_VALUE, 0, 0, 0, 0}, {0, 0, Integer.MIN_VALUE, 0, 0}};
        for (int[] w : wrong) {
            DUE.is("a wrong lead", x.lead(w[0], w[1], w[2], w[3], w[4]), NONE);
        }
        DUE.is("count(1)", x.count(1), 0);
        DUE.is("count(3)", x.count(3), 1);
        DUE.is("lead(0, 0, 0, 0, 0)", x.lead(0, 0, 0, 0, 0), 0);
        DUE.is("lead(0, 1439, 255, 255, 9999)", x.lead(0, 1439, 255, 255, 9999), 1);
        DUE.is("its KIND", x.sounding(1, 0), 0);
        DUE.is("its RAW", x.sounding(1, 3), 9999);
    }

    private static void echoCutsFloats() {
        float[] right = {0f, -0f, 0.999f, -0.999f, 1f, 1.999f, 2f, 12345.678f, 16383.999f, 16384f, 19999f, 19999.998f,
            Float.MIN_VALUE, -Float.MIN_VALUE, Float.MIN_NORMAL};
        SoundingSheet x = withLine();
        for (int i = 0; i < right.length; i++) {
            DUE.is("echo of " + right[i], x.echo(0, 0, 0, 0, Float.floatToRawIntBits(right[i])), i);
            DUE.is("RAW of " + right[i], x.sounding(i, 3), (int) right[i]);
            DUE.is("KIND of " + right[i], x.sounding(i, 0), 1);
        }
        float[] wrong = {-1f, -1.5f, 20000f, 32768f, 1e30f, -1e30f, Float.MAX_VALUE, Float.POSITIVE_INFINITY,
            Float.NEGATIVE_INFINITY, Float.NaN};
        for (float f : wrong) {
            DUE.is("echo of " + f, x.echo(0, 0, 0, 0, Float.floatToRawIntBits(f)), NONE);
        }
        int[] noNumbers = {0x7f800001, 0x7fffffff, 0xff800001, -1, 0xffc00000};
        for (int bits : noNumbers) {
            DUE.is("echo of no number " + bits, x.echo(0, 0, 0, 0, bits), NONE);
        }
        DUE.is("count(1)", x.count(1), right.length);
    }

    private static void echoHasItsEdges() {
        SoundingSheet x = withLine();
        int one = Float.floatToRawIntBits(1f);
        int[][] wrong = {{-1, 0, 0, 0}, {1, 0, 0, 0}, {0, -1, 0, 0}, {0, 1440, 0, 0}, {0, 0, -1, 0}, {0, 0, 256, 0},
            {0, 0, 0, -1}, {0, 0, 0, 256}};
        for (int[] w : wrong) {
            DUE.is("a wrong echo", x.echo(w[0], w[1], w[2], w[3], one), NONE);
        }
        DUE.is("count(1)", x.count(1), 0);
        DUE.is("echo(0, 1439, 255, 255)", x.echo(0, 1439, 255, 255, one), 0);
    }

    private static void sweepStaysWithin() {
        SoundingSheet x = withLine();
        int[][] wrong = {{-1, 0, 0, 0, 1, 1, 0}, {1, 0, 0, 0, 1, 1, 0}, {0, -1, 0, 0, 1, 1, 0}, {0, 1440, 0, 0, 1, 1, 0},
            {0, 0, -1, 0, 1, 1, 0}, {0, 0, 256, 0, 1, 1, 0}, {0, 0, 0, -1, 1, 1, 0}, {0, 0, 0, 256, 1, 1, 0},
            {0, 0, 0, 0, 0, 1, 0}, {0, 0, 0, 0, 1, 0, 0}, {0, 0, 0, 0, -1, 1, 0}, {0, 0, 0, 0, 257, 1, 0},
            {0, 0, 0, 0, 1, 257, 0}, {0, 0, 255, 0, 2, 1, 0}, {0, 0, 0, 255, 1, 2, 0}, {0, 0, 0, 0, 1, 1, -1},
            {0, 0, 0, 0, 1, 1, 10000}, {0, 0, 9, 0, Integer.MAX_VALUE, 1, 0}, {0, 0, 0, 9, 1, Integer.MAX_VALUE, 0}};
        for (int[] w : wrong) {
            DUE.is("a wrong sweep", x.sweep(w[0], w[1], w[2], w[3], w[4], w[5], w[6]), NONE);
        }
        DUE.is("count(3)", x.count(3), 1);
        DUE.is("all places", x.sweep(0, 0, 0, 0, 256, 256, 9999), 0);
        DUE.is("the last place", x.sweep(0, 0, 255, 255, 1, 1, 0), 1);
        DUE.is("w", x.sounding(0, 8), 256);
        DUE.is("h", x.sounding(0, 9), 256);
        DUE.is("KIND", x.sounding(0, 0), 2);
    }

    private static void noticeGoesByKind() {
        SoundingSheet x = new SoundingSheet();
        int[][] wrong = {{2, 0, 0, 0, 1}, {6, 0, 0, 0, 1}, {-1, 0, 0, 0, 1}, {3, -1, 0, 0, 1}, {3, 100, 0, 0, 1},
            {3, 0, -1, 0, 1}, {3, 0, 256, 0, 1}, {3, 0, 0, -1, 1}, {3, 0, 0, 256, 1}, {3, 0, 0, 0, -1},
            {3, 0, 0, 0, 10000}, {4, 0, 0, 0, 0}, {4, 0, 0, 0, -201}, {5, 0, 0, 0, -1}, {5, 0, 0, 0, 10000}};
        for (int[] w : wrong) {
            DUE.is("a wrong notice", x.notice(w[0], w[1], w[2], w[3], w[4]), NONE);
        }
        DUE.is("count(3)", x.count(3), 0);
        int[][] right = {{3, 0, 0, 0, 0}, {3, 99, 255, 255, 9999}, {4, 0, 0, 0, -1}, {4, 0, 0, 0, -200}, {5, 0, 0, 0, 0},
            {5, 0, 0, 0, 9999}};
        for (int i = 0; i < right.length; i++) {
            int[] r = right[i];
            DUE.is("a notice", x.notice(r[0], r[1], r[2], r[3], r[4]), i);
            DUE.is("its depth", x.depth(i), r[4]);
        }
    }

    private static void twoHundredAreTheMost() {
        SoundingSheet x = withLine();
        for (int i = 0; i < 200; i++) {
            DUE.is("notice " + i, x.notice(5, 0, i, i, i), i);
        }
        DUE.is("one more notice", x.notice(5, 0, 0, 0, 0), NONE);
        DUE.is("one more lead", x.lead(0, 0, 0, 0, 0), NONE);
        DUE.is("one more echo", x.echo(0, 0, 0, 0, 0), NONE);
        DUE.is("one more sweep", x.sweep(0, 0, 0, 0, 1, 1, 0), NONE);
        DUE.is("count(1)", x.count(1), 200);
        DUE.is("count(3)", x.count(3), 20);
        DUE.yes("undo()", x.undo());
        DUE.is("room for one", x.lead(0, 0, 0, 0, 0), 199);
        DUE.is("the last one's KIND", x.sounding(199, 0), 0);
    }

    private static void goneChangesOnlyWhatWasNotSo() {
        SoundingSheet x = new SoundingSheet();
        x.notice(5, 10, 0, 0, 7);
        DUE.no("gone(1, 0)", x.gone(1, 0));
        DUE.no("gone(-1, 0)", x.gone(-1, 0));
        DUE.no("gone(0, -1)", x.gone(0, -1));
        DUE.no("gone(0, 101)", x.gone(0, 101));
        DUE.no("gone(0, 100) at first", x.gone(0, 100));
        DUE.is("acts", x.count(3), 1);
        DUE.yes("gone(0, 12)", x.gone(0, 12));
        DUE.no("gone(0, 12) once more", x.gone(0, 12));
        DUE.is("acts", x.count(3), 2);
        DUE.is("the day ahead of its own", x.bottom(9, 0), UNKNOWN);
        DUE.is("its own day", x.bottom(10, 0), 7);
        DUE.is("the last day", x.bottom(11, 0), 7);
        DUE.is("the day from which it's GONE", x.bottom(12, 0), UNKNOWN);
        DUE.yes("gone(0, 100): never", x.gone(0, 100));
        DUE.is("there again", x.bottom(99, 0), 7);
        DUE.yes("GONE ahead of its own day", x.gone(0, 0));
        DUE.is("never there", x.bottom(10, 0), UNKNOWN);
        DUE.is("its depth still", x.depth(0), 7);
    }

    private static void countCountsThoseThatWait() {
        SoundingSheet x = withLine();
        x.lead(0, 10, 0, 0, 1);
        x.echo(0, 20, 0, 0, 0);
        x.sweep(0, 30, 0, 0, 1, 1, 1);
        x.notice(5, 3, 0, 0, 1);
        DUE.is("all of the line WAIT", x.count(2), 3);
        x.tide(3, 10, 0);
        DUE.is("after a height", x.count(2), 2);
        x.tide(3, 30, 0);
        DUE.is("after another", x.count(2), 0);
        x.undo();
        x.gone(1, 0);
        DUE.is("those GONE WAIT too", x.count(2), 2);
        DUE.is("count(0)", x.count(0), 1);
        DUE.is("count(1)", x.count(1), 4);
        DUE.is("count(4)", x.count(4), NONE);
        DUE.is("count(-1)", x.count(-1), NONE);
    }

    private static void soundingTellsAll() {
        SoundingSheet x = withLine();
        x.line(9, 1500);
        x.lead(1, 17, 18, 19, 20);
        x.sweep(0, 27, 28, 29, 30, 31, 32);
        x.notice(4, 44, 45, 46, -47);
        x.tide(3, 27, 0);
        x.gone(2, 48);
        int[][] want = {{0, 18, 19, 20, 9, 1, 17, 100, 1, 1, 1}, {2, 28, 29, 32, 3, 0, 27, 100, 30, 31, 0},
            {4, 45, 46, -47, 44, -1, -1, 48, 1, 1, 0}};
        for (int s = 0; s < want.length; s++) {
            for (int what = 0; what <= 10; what++) {
                DUE.is("sounding(" + s + ", " + what + ")", x.sounding(s, what), want[s][what]);
            }
            DUE.is("sounding(" + s + ", 11)", x.sounding(s, 11), NONE);
            DUE.is("sounding(" + s + ", -1)", x.sounding(s, -1), NONE);
        }
        DUE.is("sounding(3, 0)", x.sounding(3, 0), NONE);
        DUE.is("sounding(-1, 0)", x.sounding(-1, 0), NONE);
        DUE.is("sounding(MAX, 7)", x.sounding(Integer.MAX_VALUE, 7), NONE);
    }

    private static void depthIsCutDown() {
        SoundingSheet x = new SoundingSheet();
        x.line(0, 1401);
        x.tide(0, 0, 0);
        x.tide(0, 3, 1);
        x.lead(0, 1, 0, 0, 10);
        DUE.is("10 less 1 / 3", x.depth(0), 9);
        x.lead(0, 1, 0, 0, 0);
        DUE.is("0 less 1 / 3", x.depth(1), -1);
        x.echo(0, 0, 0, 0, Float.floatToRawIntBits(1999f));
        DUE.is("1999 times 1401 / 2000", x.depth(2), 1400);
        x.echo(0, 3, 0, 0, Float.floatToRawIntBits(19999f));
        DUE.is("19999 times 1401 / 2000 less 1", x.depth(3), 14008);
        x.echo(0, 2, 0, 0, Float.floatToRawIntBits(20f));
        DUE.is("14.01 less 2 / 3: cut once, not twice", x.depth(4), 13);
        x.echo(0, 1, 0, 0, Float.floatToRawIntBits(999.5f));
        DUE.is("999 times 1401 / 2000 less 1 / 3", x.depth(5), 699);
        DUE.is("depth(6)", x.depth(6), UNKNOWN);
        DUE.is("depth(-1)", x.depth(-1), UNKNOWN);
    }

    private static void aWholeNumberStays() {
        SoundingSheet x = new SoundingSheet();
        x.line(0, 1500);
        x.tide(0, 0, 0);
        x.tide(0, 1439, 1);
        x.tide(0, 1435, 0);
        x.echo(0, 1438, 0, 0, Float.floatToRawIntBits(1f));
        x.echo(0, 1437, 0, 0, Float.floatToRawIntBits(1f));
        x.echo(0, 1439, 0, 0, Float.floatToRawIntBits(1f));
        DUE.is("3 / 4 less 3 / 4", x.depth(0), 0);
        DUE.is("3 / 4 less 2 / 4", x.depth(1), 0);
        DUE.is("3 / 4 less 1", x.depth(2), -1);
        x.speed(0, 1499);
        DUE.is("1499 / 2000 less 3 / 4", x.depth(0), -1);
        x.speed(0, 1501);
        DUE.is("1501 / 2000 less 3 / 4", x.depth(0), 0);
        x.shift(0, 50);
        DUE.is("with a SHIFT up", x.depth(0), 50);
        x.shift(0, -50);
        DUE.is("with a SHIFT down", x.depth(0), -50);
        x.speed(0, 1499);
        DUE.is("both down", x.depth(0), -51);
        x.lead(0, 1438, 0, 0, 51);
        DUE.is("51 less 50 and 3 / 4", x.depth(3), 0);
        x.sweep(0, 1438, 0, 0, 1, 1, 50);
        DUE.is("50 less 50 and 3 / 4", x.depth(4), -1);
    }

    /** 7 n + 2.1 less 0.1, which falls short of a whole number when reckoned in doubles. */
    private static void fractionsAreExact() {
        for (int first = 0; first < 1900; first += 190) {
            SoundingSheet x = new SoundingSheet();
            x.line(0, 1400);
            x.tide(0, 0, 0);
            x.tide(0, 10, 1);
            for (int i = 0; i < 190; i++) {
                int n = first + i;
                x.echo(0, 1, 0, 0, Float.floatToRawIntBits(10f * n + 3));
                DUE.is("ECHO of " + (10 * n + 3), x.depth(i), 7 * n + 2);
            }
            x.shift(0, -1);
            DUE.is("with a SHIFT", x.depth(7), 7 * (first + 7) + 1);
        }
    }

    private static void depthAtItsFarthest() {
        SoundingSheet x = new SoundingSheet();
        x.line(0, 1600);
        x.line(1, 1400);
        x.tide(0, 0, -100);
        x.tide(1, 1439, 200);
        x.shift(0, 50);
        x.shift(1, -50);
        x.echo(0, 0, 0, 0, Float.floatToRawIntBits(19999f));
        x.lead(0, 0, 0, 0, 9999);
        x.sweep(0, 0, 0, 0, 1, 1, 9999);
        x.echo(1, 1439, 0, 0, 0);
        x.lead(1, 1439, 0, 0, 0);
        x.sweep(1, 1439, 0, 0, 1, 1, 0);
        int[] want = {16149, 10149, 10149, -250, -250, -250};
        for (int s = 0; s < want.length; s++) {
            DUE.is("depth(" + s + ")", x.depth(s), want[s]);
            DUE.is("it doesn't WAIT", x.sounding(s, 10), 0);
        }
        DUE.is("none WAITS", x.count(2), 0);
    }

    private static void waitsOutsideOfTheHeights() {
        SoundingSheet x = withLine();
        x.tide(3, 100, 10);
        x.tide(3, 200, 10);
        x.tide(2, 0, 10);
        x.tide(4, 1439, 10);
        int[] minutes = {0, 99, 100, 101, 199, 200, 201, 1439};
        int[] waits = {1, 1, 0, 0, 0, 0, 1, 1};
        for (int i = 0; i < minutes.length; i++) {
            int lead = x.lead(0, minutes[i], 0, 0, 30);
            int echo = x.echo(0, minutes[i], 0, 0, Float.floatToRawIntBits(40f));
            int sweep = x.sweep(0, minutes[i], 0, 0, 1, 1, 30);
            for (int s : new int[] {lead, echo, sweep}) {
                DUE.is("WAITS at " + minutes[i], x.sounding(s, 10), waits[i]);
                DUE.is("depth at " + minutes[i], x.depth(s), waits[i] == 1 ? UNKNOWN : 20);
            }
        }
        DUE.is("those that WAIT", x.count(2), 12);
        x.tide(3, 1439, 10);
        DUE.is("a height behind them all", x.count(2), 6);
        x.tide(3, 0, 10);
        DUE.is("a height ahead of them all", x.count(2), 0);
    }

    private static SoundingSheet oneOfEachKind(int day) {
        SoundingSheet x = new SoundingSheet();
        x.line(day, 1500);
        x.tide(day, 0, 0);
        x.lead(0, 0, 0, 0, 5);
        x.echo(0, 0, 16, 0, Float.floatToRawIntBits(8f));
        x.sweep(0, 0, 32, 0, 16, 16, 5);
        x.notice(3, day, 48, 0, 5);
        x.notice(4, day, 64, 0, -5);
        x.notice(5, day, 80, 0, 5);
        return x;
    }

    private static void thereFromItsDayOn() {
        int[][] days = {{0, 100}, {0, 0}, {0, 1}, {0, 99}, {50, 100}, {50, 51}, {50, 50}, {50, 49}, {50, 0}, {99, 100},
            {99, 99}, {98, 99}};
        for (int[] d : days) {
            SoundingSheet x = oneOfEachKind(d[0]);
            for (int s = 0; s < 6; s++) {
                DUE.is("GONE from " + d[1], x.gone(s, d[1]) ? 1 : 0, d[1] == 100 ? 0 : 1);
            }
            for (int day : new int[] {0, 1, 48, 49, 50, 51, 97, 98, 99}) {
                boolean there = d[0] <= day && day < d[1];
                for (int s = 0; s < 6; s++) {
                    int known = s == 1 ? 6 : s == 4 ? -5 : 5;
                    String name = "KIND " + s + " of " + d[0] + ", GONE from " + d[1] + ", on " + day;
                    DUE.is(name, x.bottom(day, s), there ? known : UNKNOWN);
                    DUE.is("why, " + name, x.why(day, 1, s), s == 2 ? 3 : !there ? 4 : s == 3 || s == 4 ? 0 : 1);
                }
            }
        }
    }

    private static void depthFollowsItsLine() {
        SoundingSheet x = withLine();
        x.lead(0, 600, 0, 0, 100);
        x.echo(0, 600, 0, 0, Float.floatToRawIntBits(100f));
        x.sweep(0, 600, 0, 0, 1, 1, 100);
        x.notice(3, 3, 0, 0, 100);
        DUE.is("a lead that WAITS", x.depth(0), UNKNOWN);
        DUE.is("an echo that WAITS", x.depth(1), UNKNOWN);
        DUE.is("a sweep that WAITS", x.depth(2), UNKNOWN);
        DUE.is("a notice never WAITS", x.depth(3), 100);
        x.tide(3, 600, 30);
        x.shift(0, 7);
        x.speed(0, 1600);
        DUE.is("lead", x.depth(0), 77);
        DUE.is("echo", x.depth(1), 57);
        DUE.is("sweep", x.depth(2), 77);
        DUE.is("notice", x.depth(3), 100);
        x.shift(0, -50);
        x.tide(3, 600, 200);
        DUE.is("below nothing", x.depth(0), -150);
    }
}
