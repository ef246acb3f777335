/** Promises 16 and 17: cross, worst. */
public final class CrossingsTest {
    private static final Due DUE = new Due();
    private static final int NONE = SoundingSheet.NONE;
    private static final int UNKNOWN = SoundingSheet.UNKNOWN;

    public static void main(String[] args) {
        theNearestPairCrosses();
        equalPairsGoByNumbers();
        onlyCorrectedLeadsAndEchoesCross();
        goneOnesCrossStill();
        withinUTimesU();
        linesKeepApart();
        allSoundingsCross();
        wrongCrossings();
        worstAddsSizes();
        worstNeedsACrossing();
        DUE.end();
    }

    private static SoundingSheet withLines(int n) {
        SoundingSheet x = new SoundingSheet();
        for (int i = 0; i < n; i++) {
            x.line(0, 1500);
        }
        x.tide(0, 0, 0);
        return x;
    }

    private static void isCross(String name, SoundingSheet x, int[] args, int[] want) {
        for (int what = 0; what < 4; what++) {
            DUE.is(name + ", " + what, x.cross(args[0], args[1], args[2], what), want[what]);
        }
    }

    private static void theNearestPairCrosses() {
        SoundingSheet x = withLines(2);
        x.lead(1, 0, 0, 0, 40);
        x.lead(0, 0, 3, 4, 90);
        x.lead(0, 0, 200, 200, 1);
        isCross("at the edge of u", x, new int[] {0, 1, 5}, new int[] {25, 1, 0, 50});
        isCross("beyond u", x, new int[] {0, 1, 4}, new int[] {NONE, NONE, NONE, UNKNOWN});
        x.echo(1, 0, 200, 200, Float.floatToRawIntBits(100f));
        isCross("at one place", x, new int[] {0, 1, 0}, new int[] {0, 2, 3, -74});
        isCross("the least of all", x, new int[] {0, 1, 400}, new int[] {0, 2, 3, -74});
        SoundingSheet far = withLines(2);
        far.lead(0, 0, 0, 0, 1);
        far.lead(1, 0, 255, 255, 1);
        isCross("from corner to corner", far, new int[] {0, 1, 400}, new int[] {130050, 0, 1, 0});
        isCross("a unit too few", far, new int[] {0, 1, 360}, new int[] {NONE, NONE, NONE, UNKNOWN});
    }

    private static void equalPairsGoByNumbers() {
        SoundingSheet x = withLines(2);
        x.lead(1, 0, 11, 10, 1);
        x.lead(0, 0, 20, 10, 2);
        x.lead(0, 0, 10, 10, 4);
        x.lead(1, 0, 21, 10, 8);
        x.lead(1, 0, 19, 10, 16);
        isCross("least of a's, then of b's", x, new int[] {0, 1, 400}, new int[] {1, 1, 3, -6});
    }

    private static void onlyCorrectedLeadsAndEchoesCross() {
        SoundingSheet x = withLines(2);
        x.line(1, 1500);
        x.lead(0, 0, 10, 10, 5);
        x.sweep(1, 0, 10, 10, 4, 4, 5);
        x.notice(3, 0, 10, 10, 5);
        x.lead(1, 1, 10, 10, 5);
        x.lead(2, 0, 10, 10, 5);
        isCross("swept ones don't", x, new int[] {0, 1, 400}, new int[] {NONE, NONE, NONE, UNKNOWN});
        isCross("those that WAIT don't", x, new int[] {0, 2, 400}, new int[] {NONE, NONE, NONE, UNKNOWN});
        x.tide(1, 0, 2);
        isCross("lines of two days do", x, new int[] {0, 2, 400}, new int[] {0, 0, 4, 2});
    }

    private static void goneOnesCrossStill() {
        SoundingSheet x = withLines(2);
        x.lead(0, 0, 10, 10, 5);
        x.lead(1, 0, 10, 11, 9);
        x.gone(0, 0);
        x.gone(1, 0);
        isCross("GONE ones", x, new int[] {0, 1, 1}, new int[] {1, 0, 1, -4});
    }

    /** For each squared distance the least u that reaches it, and the one below. */
    private static void withinUTimesU() {
        int[][] apart = {{0, 0, 0}, {1, 0, 1}, {1, 1, 2}, {2, 0, 2}, {3, 4, 5}, {6, 8, 10}, {20, 21, 29}, {255, 0, 255},
            {0, 255, 255}, {255, 254, 360}, {255, 255, 361}};
        for (int[] d : apart) {
            SoundingSheet x = withLines(2);
            x.lead(0, 0, 0, 255, 30);
            x.lead(1, 0, d[0], 255 - d[1], 20);
            int squared = d[0] * d[0] + d[1] * d[1];
            isCross("just within", x, new int[] {0, 1, d[2]}, new int[] {squared, 0, 1, 10});
            isCross("the greatest u", x, new int[] {0, 1, 400}, new int[] {squared, 0, 1, 10});
            isCross("just beyond", x, new int[] {0, 1, d[2] - 1}, new int[] {NONE, NONE, NONE, UNKNOWN});
            DUE.is("worst just within", x.worst(d[2]), 0);
            DUE.is("worst just beyond", x.worst(d[2] - 1), NONE);
        }
    }

    private static void linesKeepApart() {
        SoundingSheet x = withLines(4);
        for (int line = 0; line < 4; line++) {
            x.lead(line, 0, 10 * line, line * line, 7 * line * line);
        }
        for (int a = 0; a < 4; a++) {
            for (int b = a + 1; b < 4; b++) {
                int dy = b * b - a * a;
                int apart = 100 * (b - a) * (b - a) + dy * dy;
                isCross("lines " + a + " and " + b, x, new int[] {a, b, 400}, new int[] {apart, a, b, -7 * dy});
            }
        }
    }

    private static void allSoundingsCross() {
        SoundingSheet x = withLines(20);
        for (int s = 0; s < 200; s++) {
            x.lead(s % 20, 0, s, 0, s % 20 == 19 ? 99 : 50);
        }
        isCross("the first and the last line", x, new int[] {0, 19, 1}, new int[] {1, 20, 19, -49});
        isCross("lines side by side", x, new int[] {7, 8, 1}, new int[] {1, 7, 8, 0});
        DUE.is("worst of twenty", x.worst(400), 19);
        DUE.is("worst within 1", x.worst(1), 19);
    }

    private static void wrongCrossings() {
        SoundingSheet x = withLines(2);
        x.lead(0, 0, 10, 10, 5);
        x.lead(1, 0, 10, 10, 9);
        int[][] wrong = {{1, 0, 5}, {0, 0, 5}, {1, 1, 5}, {0, 2, 5}, {-1, 0, 5}, {0, 1, -1}, {0, 1, 401},
            {0, Integer.MAX_VALUE, 5}, {Integer.MIN_VALUE, 1, 5}, {0, 1, Integer.MAX_VALUE}, {0, 1, 65536}};
        for (int[] w : wrong) {
            isCross("wrong", x, w, new int[] {NONE, NONE, NONE, UNKNOWN});
        }
        DUE.is("cross(0, 1, 5, 4)", x.cross(0, 1, 5, 4), NONE);
        DUE.is("cross(0, 1, 5, -1)", x.cross(0, 1, 5, -1), NONE);
        DUE.is("cross(5, 9, 5, 4)", x.cross(5, 9, 5, 4), NONE);
    }

    private static void worstAddsSizes() {
        SoundingSheet x = withLines(4);
        x.lead(0, 0, 10, 10, 100);
        x.lead(1, 0, 10, 10, 110);
        x.lead(2, 0, 11, 10, 90);
        DUE.is("0: 10 and 10, 1: 10 and 20, 2: 10 and 20", x.worst(1), 1);
        DUE.is("only 0 and 1 cross", x.worst(0), 0);
        x.lead(3, 0, 12, 10, 91);
        DUE.is("2: 10 and 20 and 1, 1: 10 and 20", x.worst(1), 2);
        x.shift(2, 1);
        DUE.is("2: 9 and 19 and 0, 1: 10 and 19", x.worst(1), 1);
        x.shift(2, 0);
        x.shift(3, 50);
        DUE.is("3 far off: 41, 31, 51", x.worst(2), 3);
    }

    private static void worstNeedsACrossing() {
        SoundingSheet x = withLines(3);
        DUE.is("nothing", x.worst(400), NONE);
        x.lead(1, 0, 10, 10, 100);
        DUE.is("one line alone", x.worst(400), NONE);
        x.lead(2, 0, 12, 10, 100);
        DUE.is("a CROSSING that doesn't miss", x.worst(2), 1);
        DUE.is("beyond u", x.worst(1), NONE);
        DUE.is("worst(-1)", x.worst(-1), NONE);
        DUE.is("worst(401)", x.worst(401), NONE);
        DUE.is("worst(400)", x.worst(400), 1);
        DUE.is("worst(65536)", x.worst(65536), NONE);
    }
}
