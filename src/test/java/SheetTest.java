/** Promises 18 and 19: shown, why. */
public final class SheetTest {
    private static final Due DUE = new Due();
    private static final int NONE = SoundingSheet.NONE;

    public static void main(String[] args) {
        squaresKeepTheirPlaces();
        wrecksAndRocksAreAlwaysShown();
        sweptOnesShowWhatStandsInThem();
        aSweepNeedsToCount();
        alwaysGoesByNumbers();
        lessDeepOfALaterDay();
        spansHaveTheirEdges();
        fewerThanN();
        theShoalestThenTheFarthest();
        farthestFromAllThatAreShown();
        farthestAtOnePlace();
        everySquareStandsAlone();
        whyByTheFirstThatHolds();
        wrongCalls();
        DUE.end();
    }

    private static void isShown(String name, SoundingSheet x, int[] args, int... want) {
        for (int k = 0; k < want.length; k++) {
            DUE.is(name + ", " + k, x.shown(args[0], args[1], args[2], k), want[k]);
        }
        DUE.is(name + ", no more", x.shown(args[0], args[1], args[2], want.length), NONE);
        DUE.is(name + ", -1", x.shown(args[0], args[1], args[2], -1), NONE);
    }

    private static void squaresKeepTheirPlaces() {
        SoundingSheet x = new SoundingSheet();
        x.notice(5, 0, 15, 15, 1);
        x.notice(5, 0, 16, 15, 1);
        x.notice(5, 0, 15, 16, 1);
        x.notice(5, 0, 255, 255, 1);
        isShown("square 0", x, new int[] {0, 6, 0}, 0);
        isShown("square 1", x, new int[] {0, 6, 1}, 1);
        isShown("square 16", x, new int[] {0, 6, 16}, 2);
        isShown("square 255", x, new int[] {0, 6, 255}, 3);
        isShown("square 17", x, new int[] {0, 6, 17});
    }

    private static void wrecksAndRocksAreAlwaysShown() {
        SoundingSheet x = new SoundingSheet();
        x.notice(5, 0, 0, 0, 50);
        for (int i = 0; i < 9; i++) {
            x.notice(i % 2 == 0 ? 3 : 4, 0, i, i, i % 2 == 0 ? 100 : -1);
        }
        isShown("more than n", x, new int[] {0, 1, 0}, 1, 2, 3, 4, 5, 6, 7, 8, 9);
        DUE.is("a WRECK", x.why(0, 1, 1), 0);
        DUE.is("the SHOALEST that is ALWAYS SHOWN", x.why(0, 1, 2), 0);
        DUE.is("others are ahead", x.why(0, 6, 0), 6);
        SoundingSheet y = new SoundingSheet();
        y.notice(3, 0, 0, 0, 50);
        y.notice(5, 0, 1, 1, 40);
        isShown("the SHOALEST beyond n", y, new int[] {0, 1, 0}, 0, 1);
        DUE.is("the SHOALEST", y.why(0, 1, 1), 1);
        y.notice(3, 0, 0, 0, 40);
        isShown("a WRECK as deep with a greater number", y, new int[] {0, 1, 0}, 0, 2, 1);
        y.gone(1, 0);
        isShown("none but WRECKS", y, new int[] {0, 1, 0}, 0, 2);
    }

    private static SoundingSheet withSweep() {
        SoundingSheet x = new SoundingSheet();
        x.line(5, 1500);
        x.tide(5, 0, 0);
        x.sweep(0, 0, 2, 3, 4, 5, 100);
        return x;
    }

    private static void sweptOnesShowWhatStandsInThem() {
        SoundingSheet x = withSweep();
        x.notice(5, 4, 2, 3, 10);
        x.notice(5, 5, 2, 3, 20);
        x.notice(5, 6, 2, 3, 99);
        x.notice(5, 6, 2, 3, 100);
        x.notice(5, 6, 5, 7, 98);
        x.notice(5, 6, 6, 7, 50);
        x.notice(5, 6, 5, 8, 50);
        x.notice(5, 6, 1, 3, 50);
        x.notice(5, 6, 2, 2, 50);
        isShown("only later ones within that are less deep", x, new int[] {9, 1, 0}, 3, 5, 1);
        int[] reasons = {3, 1, 6, 0, 6, 0, 6, 6, 6, 6};
        for (int s = 0; s < reasons.length; s++) {
            DUE.is("why(9, 1, " + s + ")", x.why(9, 1, s), reasons[s]);
        }
    }

    private static void aSweepNeedsToCount() {
        SoundingSheet x = withSweep();
        x.line(6, 1500);
        x.sweep(1, 0, 0, 0, 16, 16, 200);
        x.notice(5, 9, 3, 3, 90);
        x.notice(5, 9, 4, 4, 80);
        x.notice(5, 9, 0, 0, 150);
        isShown("one of two sweeps WAITS", x, new int[] {9, 1, 0}, 2, 3);
        DUE.is("not within the one that counts", x.why(9, 1, 4), 6);
        x.tide(6, 0, 0);
        isShown("both count", x, new int[] {9, 1, 0}, 2, 3, 4);
        x.gone(0, 9);
        x.gone(1, 10);
        isShown("one is GONE", x, new int[] {9, 1, 0}, 2, 3, 4);
        isShown("both are GONE", x, new int[] {10, 1, 0}, 3);
    }

    /** Those ALWAYS SHOWN stand by numbers, whatever they are SHOWN for. */
    private static void alwaysGoesByNumbers() {
        SoundingSheet x = withSweep();
        x.notice(5, 6, 3, 4, 50);
        x.notice(4, 6, 9, 9, -2);
        x.notice(5, 6, 4, 4, 60);
        x.notice(3, 6, 9, 9, 300);
        x.notice(5, 6, 12, 12, 1);
        x.notice(3, 6, 3, 4, 70);
        isShown("by numbers", x, new int[] {9, 1, 0}, 1, 2, 3, 4, 6);
        isShown("n = 5", x, new int[] {9, 5, 0}, 1, 2, 3, 4, 6);
        isShown("n = 6: one more by distance", x, new int[] {9, 6, 0}, 1, 2, 3, 4, 6, 5);
        DUE.is("why", x.why(9, 6, 5), 2);
        DUE.is("why not", x.why(9, 5, 5), 6);
        x.gone(2, 9);
        isShown("without the ROCK another is the SHOALEST", x, new int[] {9, 1, 0}, 1, 3, 4, 6, 5);
        DUE.is("why the SHOALEST", x.why(9, 1, 5), 1);
    }

    private static void lessDeepOfALaterDay() {
        for (int depth = 99; depth <= 101; depth++) {
            for (int day = 4; day <= 6; day++) {
                SoundingSheet x = withSweep();
                x.notice(5, day, 3, 4, depth);
                x.notice(5, day, 15, 15, 1);
                boolean always = depth < 100 && day > 5;
                DUE.is("depth " + depth + " of day " + day, x.why(99, 1, 1), always ? 0 : 6);
                isShown("depth " + depth + " of day " + day, x, new int[] {99, 1, 0}, always ? new int[] {1, 2} : new int[] {2});
            }
        }
        SoundingSheet y = withSweep();
        y.line(6, 1500);
        y.tide(6, 0, 0);
        y.lead(1, 0, 3, 4, 100);
        y.notice(5, 6, 15, 15, 1);
        DUE.is("a LEAD as deep", y.why(6, 1, 1), 6);
        y.shift(1, -1);
        DUE.is("a LEAD less deep by its SHIFT", y.why(6, 1, 1), 0);
        y.shift(0, -1);
        DUE.is("the SWEPT one less deep, too", y.why(6, 1, 1), 6);
        y.shift(0, 0);
        y.gone(0, 6);
        DUE.is("the SWEPT one GONE", y.why(6, 1, 1), 6);
        y.gone(0, 7);
        DUE.is("the SWEPT one THERE for its last day", y.why(6, 1, 1), 0);
        DUE.is("and GONE the day behind that", y.why(7, 1, 1), 6);
    }

    private static void spansHaveTheirEdges() {
        for (int px = 1; px <= 6; px++) {
            for (int py = 2; py <= 8; py++) {
                SoundingSheet x = withSweep();
                x.notice(5, 6, px, py, 50);
                x.notice(5, 6, 15, 15, 1);
                boolean within = px >= 2 && px <= 5 && py >= 3 && py <= 7;
                DUE.is("at " + px + ", " + py, x.why(6, 1, 1), within ? 0 : 6);
            }
        }
    }

    /** With a ALWAYS SHOWN, the SHOALEST and others, n tells how many of the others follow. */
    private static void fewerThanN() {
        for (int always = 0; always <= 7; always++) {
            SoundingSheet x = new SoundingSheet();
            for (int i = 0; i < always; i++) {
                x.notice(3, 0, i, 0, 50);
            }
            x.notice(5, 0, 8, 0, 10);
            for (int i = 0; i < 7; i++) {
                x.notice(5, 0, 8, 15 - i, 60);
            }
            for (int n = 1; n <= 6; n++) {
                int many = Math.max(n, always + 1);
                String name = always + " ALWAYS, n = " + n;
                DUE.is(name + ", the SHOALEST", x.shown(0, n, 0, always), always);
                DUE.yes(name + ", the last", x.shown(0, n, 0, many - 1) >= always);
                DUE.is(name + ", no more", x.shown(0, n, 0, many), NONE);
            }
        }
        SoundingSheet few = new SoundingSheet();
        few.notice(5, 0, 0, 0, 10);
        few.notice(5, 0, 9, 0, 10);
        isShown("fewer than n are FOUND", few, new int[] {0, 6, 0}, 0, 1);
    }

    /** The one nearest to the SHOALEST is far from it, but near to another that is SHOWN. */
    private static void farthestFromAllThatAreShown() {
        SoundingSheet x = new SoundingSheet();
        x.notice(5, 0, 0, 0, 1);
        x.notice(5, 0, 15, 0, 9);
        x.notice(5, 0, 14, 0, 9);
        x.notice(5, 0, 7, 0, 9);
        x.notice(5, 0, 3, 0, 9);
        isShown("the middle ahead of the far end", x, new int[] {0, 6, 0}, 0, 1, 3, 4, 2);
        SoundingSheet y = new SoundingSheet();
        y.notice(3, 0, 0, 0, 5);
        y.notice(3, 0, 15, 15, 5);
        y.notice(5, 0, 15, 14, 9);
        y.notice(5, 0, 8, 8, 9);
        y.notice(5, 0, 0, 15, 9);
        isShown("from both WRECKS", y, new int[] {0, 5, 0}, 0, 1, 4, 3, 2);
        SoundingSheet z = new SoundingSheet();
        z.notice(5, 0, 8, 8, 1);
        z.notice(5, 0, 8, 4, 9);
        z.notice(5, 0, 4, 8, 9);
        z.notice(5, 0, 11, 11, 9);
        isShown("squared, not by steps; of several the least", z, new int[] {0, 4, 0}, 0, 3, 1, 2);
    }

    private static void theShoalestThenTheFarthest() {
        SoundingSheet x = new SoundingSheet();
        x.notice(5, 0, 0, 0, 30);
        x.notice(5, 0, 0, 1, 20);
        x.notice(5, 0, 0, 10, 20);
        x.notice(5, 0, 9, 1, 40);
        x.notice(5, 0, 15, 15, 90);
        isShown("n = 1", x, new int[] {0, 1, 0}, 1);
        isShown("n = 2", x, new int[] {0, 2, 0}, 1, 4);
        isShown("n = 4: equal distances by number", x, new int[] {0, 4, 0}, 1, 4, 2, 3);
        isShown("n = 6: all there are", x, new int[] {0, 6, 0}, 1, 4, 2, 3, 0);
        int[] reasons = {6, 1, 2, 6, 2};
        for (int s = 0; s < reasons.length; s++) {
            DUE.is("why(0, 3, " + s + ")", x.why(0, 3, s), reasons[s]);
        }
    }

    private static void farthestAtOnePlace() {
        SoundingSheet x = new SoundingSheet();
        for (int i = 0; i < 8; i++) {
            x.notice(5, 0, 7, 7, 9);
        }
        isShown("all at one place", x, new int[] {0, 6, 0}, 0, 1, 2, 3, 4, 5);
    }

    /** What was FOUND in a crowded square isn't SHOWN in the next one. */
    private static void everySquareStandsAlone() {
        SoundingSheet x = new SoundingSheet();
        for (int i = 0; i < 9; i++) {
            x.notice(i == 4 ? 3 : 5, 0, i, 15 - i, 20 - i);
        }
        x.notice(5, 0, 16, 0, 5);
        x.notice(5, 0, 200, 200, 6);
        x.notice(5, 0, 201, 200, 6);
        int[] crowded = {0, 1, 0};
        isShown("crowded", x, crowded, 4, 8);
        DUE.is("no second one at once", x.shown(0, 6, 1, 1), NONE);
        isShown("one alone", x, new int[] {0, 6, 1}, 9);
        isShown("crowded again", x, crowded, 4, 8);
        DUE.is("no third one at once", x.shown(0, 6, 204, 2), NONE);
        isShown("two alone", x, new int[] {0, 6, 204}, 10, 11);
        isShown("none", x, new int[] {0, 6, 2});
        DUE.is("why of one alone", x.why(0, 6, 9), 1);
        DUE.is("why of one in the crowd", x.why(0, 1, 0), 6);
        isShown("one alone again", x, new int[] {0, 6, 1}, 9);
    }

    private static void whyByTheFirstThatHolds() {
        SoundingSheet x = new SoundingSheet();
        x.line(5, 1500);
        x.sweep(0, 0, 0, 0, 4, 4, 10);
        x.lead(0, 0, 0, 0, 10);
        x.notice(5, 3, 100, 100, 10);
        DUE.is("SWEPT ahead of not THERE and WAITS", x.why(0, 1, 0), 3);
        DUE.is("not THERE ahead of WAITS", x.why(4, 1, 1), 4);
        DUE.is("it WAITS", x.why(5, 1, 1), 5);
        DUE.is("its own square counts", x.why(3, 1, 2), 1);
        x.gone(2, 4);
        DUE.is("GONE", x.why(4, 1, 2), 4);
        isShown("one that WAITS", x, new int[] {9, 6, 0});
    }

    private static void wrongCalls() {
        SoundingSheet x = new SoundingSheet();
        x.notice(5, 0, 0, 0, 10);
        int[][] wrong = {{-1, 1, 0, 0}, {100, 1, 0, 0}, {0, 0, 0, 0}, {0, 7, 0, 0}, {0, 1, -1, 0}, {0, 1, 256, 0},
            {0, 1, 0, 1}, {0, 1, 0, -1}, {0, 1, 0, Integer.MAX_VALUE}, {0, 1, 0, Integer.MIN_VALUE}};
        for (int[] w : wrong) {
            DUE.is("a wrong shown", x.shown(w[0], w[1], w[2], w[3]), NONE);
        }
        int[][] wrongWhy = {{-1, 1, 0}, {100, 1, 0}, {0, 0, 0}, {0, 7, 0}, {0, 1, 1}, {0, 1, -1}};
        for (int[] w : wrongWhy) {
            DUE.is("a wrong why", x.why(w[0], w[1], w[2]), NONE);
        }
        DUE.is("a right shown", x.shown(99, 6, 0, 0), 0);
        DUE.is("a right why", x.why(99, 6, 0), 1);
    }
}
