/** Promises 20 and 25: bottom, check. */
public final class DepthTest {
    private static final Due DUE = new Due();
    private static final int NONE = SoundingSheet.NONE;
    private static final int UNKNOWN = SoundingSheet.UNKNOWN;

    public static void main(String[] args) {
        theLeastOfThoseFound();
        theLeastInAnyOrder();
        squaresOfSixteenBySixteen();
        sweptWithoutAnyFound();
        aSpanNeedsAllPlaces();
        wrongBottoms();
        checkComparesDepths();
        DUE.end();
    }

    private static SoundingSheet withLine() {
        SoundingSheet x = new SoundingSheet();
        x.line(2, 1500);
        x.tide(2, 0, 0);
        return x;
    }

    private static void theLeastOfThoseFound() {
        SoundingSheet x = withLine();
        x.notice(5, 4, 0, 0, 80);
        x.lead(0, 0, 15, 15, 70);
        x.lead(0, 1, 1, 1, 5);
        x.notice(4, 6, 2, 2, -9);
        x.gone(3, 8);
        int[] want = {UNKNOWN, UNKNOWN, 70, 70, 70, 70, -9, -9, 70};
        for (int day = 0; day < want.length; day++) {
            DUE.is("bottom(" + day + ", 0)", x.bottom(day, 0), want[day]);
        }
    }

    private static void theLeastInAnyOrder() {
        int[][] orders = {{30, 20, 10}, {10, 20, 30}, {20, 10, 30}, {20, 30, 10}, {10, 10, 30}, {30, 10, 10}};
        for (int[] order : orders) {
            SoundingSheet x = withLine();
            x.sweep(0, 0, 0, 0, 16, 16, 5);
            for (int depth : order) {
                x.lead(0, 0, depth % 16, 0, depth);
            }
            x.sweep(0, 0, 0, 0, 256, 256, 40);
            DUE.is("the least of three", x.bottom(2, 0), 10);
        }
    }

    /** Of some squares each corner, and the places beside it that lie in other squares. */
    private static void squaresOfSixteenBySixteen() {
        for (int square : new int[] {0, 15, 17, 120, 238, 240, 255}) {
            int left = 16 * (square % 16);
            int top = 16 * (square / 16);
            for (int corner = 0; corner < 4; corner++) {
                int px = left + 15 * (corner % 2);
                int py = top + 15 * (corner / 2);
                DUE.is("a corner of " + square, withNotice(px, py).bottom(2, square), 10);
                int outX = corner % 2 == 0 ? px - 1 : px + 1;
                int outY = corner / 2 == 0 ? py - 1 : py + 1;
                DUE.is("beside a corner of " + square, withNotice(outX, py).bottom(2, square), UNKNOWN);
                DUE.is("above or below a corner of " + square, withNotice(px, outY).bottom(2, square), UNKNOWN);
            }
        }
    }

    /** Without a notice, if the place is none. */
    private static SoundingSheet withNotice(int px, int py) {
        SoundingSheet x = withLine();
        x.notice(5, 2, px, py, 10);
        return x;
    }

    private static void sweptWithoutAnyFound() {
        SoundingSheet x = withLine();
        x.sweep(0, 0, 0, 0, 32, 16, 50);
        x.sweep(0, 0, 0, 0, 16, 16, 60);
        x.sweep(0, 0, 0, 0, 16, 16, 40);
        x.sweep(0, 1, 0, 0, 16, 16, 99);
        x.notice(5, 5, 3, 3, 70);
        DUE.is("the greatest of the SWEPT ones", x.bottom(2, 0), 60);
        DUE.is("of the square beside it", x.bottom(2, 1), 50);
        DUE.is("none that far", x.bottom(2, 2), UNKNOWN);
        DUE.is("ahead of its day", x.bottom(1, 0), UNKNOWN);
        DUE.is("one FOUND counts alone", x.bottom(5, 0), 70);
        x.gone(1, 3);
        DUE.is("one SWEPT is GONE", x.bottom(3, 0), 50);
        x.gone(4, 6);
        DUE.is("the one FOUND is GONE", x.bottom(6, 0), 50);
    }

    private static void aSpanNeedsAllPlaces() {
        SoundingSheet x = withLine();
        x.sweep(0, 0, 15, 16, 18, 17, 30);
        for (int square = 0; square < 256; square++) {
            DUE.is("bottom of " + square, x.bottom(2, square), square == 17 ? 30 : UNKNOWN);
        }
        SoundingSheet y = withLine();
        y.sweep(0, 0, 0, 0, 15, 256, 30);
        y.sweep(0, 0, 241, 0, 15, 256, 30);
        y.sweep(0, 0, 0, 240, 256, 15, 30);
        for (int square = 0; square < 256; square++) {
            DUE.is("a place too few for " + square, y.bottom(2, square), UNKNOWN);
        }
        SoundingSheet v = withLine();
        v.sweep(0, 0, 1, 0, 255, 256, 30);
        v.sweep(0, 0, 0, 1, 256, 255, 40);
        for (int square = 0; square < 256; square++) {
            int want = square >= 16 ? 40 : square % 16 != 0 ? 30 : UNKNOWN;
            DUE.is("a place too late for " + square, v.bottom(2, square), want);
        }
        SoundingSheet z = withLine();
        z.sweep(0, 0, 240, 240, 16, 16, 30);
        z.sweep(0, 0, 0, 0, 256, 256, 0);
        for (int square = 0; square < 256; square++) {
            DUE.is("all swept, " + square, z.bottom(2, square), square == 255 ? 30 : 0);
        }
    }

    private static void wrongBottoms() {
        SoundingSheet x = withLine();
        x.sweep(0, 0, 0, 0, 256, 256, 10);
        int[][] wrong = {{-1, 0}, {100, 0}, {2, -1}, {2, 256}, {Integer.MAX_VALUE, 0}, {2, Integer.MIN_VALUE}};
        for (int[] w : wrong) {
            DUE.is("a wrong bottom", x.bottom(w[0], w[1]), UNKNOWN);
            DUE.is("a wrong check", x.check(w[0], w[1], 10), -2);
        }
        DUE.is("bottom(99, 255)", x.bottom(99, 255), 10);
        DUE.is("check(99, 255, 10)", x.check(99, 255, 10), NONE);
    }

    private static void checkComparesDepths() {
        SoundingSheet x = withLine();
        x.notice(5, 2, 0, 0, 10);
        DUE.is("it is", x.check(2, 0, 10), NONE);
        DUE.is("it's less", x.check(2, 0, 11), 0);
        DUE.is("it's less by far", x.check(2, 0, Integer.MAX_VALUE), 0);
        DUE.is("it's more", x.check(2, 0, 9), 1);
        DUE.is("it's more by far", x.check(2, 0, Integer.MIN_VALUE), 1);
        DUE.is("it's more than UNKNOWN's number", x.check(2, 0, UNKNOWN), 1);
        DUE.is("it's UNKNOWN", x.check(2, 1, 10), 2);
        DUE.is("it's UNKNOWN, d below its number", x.check(2, 1, -40000), 2);
        DUE.is("it's UNKNOWN, said to be so", x.check(2, 1, UNKNOWN), 2);
        DUE.is("UNKNOWN ahead of its day", x.check(1, 0, 10), 2);
    }
}
