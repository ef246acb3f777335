/** Promises 21 to 24: deepest, way, narrow, draught. */
public final class ChannelTest {
    private static final Due DUE = new Due();
    private static final int NONE = SoundingSheet.NONE;
    private static final int UNKNOWN = SoundingSheet.UNKNOWN;

    public static void main(String[] args) {
        theDeepWayGoesAround();
        fewestSquaresThenLesserNumbers();
        theyPartAtTheFirstSquare();
        theFirstNarrowOfSeveral();
        theBottomIsAtLeastD();
        rowsDoNotJoinAtTheirEnds();
        unknownSquaresBar();
        oneSquareAlone();
        theLongestWay();
        waysGoByDays();
        wrongCalls();
        DUE.end();
    }

    /** A sheet with the depths told, row after row from square 0 on; -1 tells none. */
    private static SoundingSheet drawn(int[][] depths) {
        SoundingSheet x = new SoundingSheet();
        for (int row = 0; row < depths.length; row++) {
            for (int column = 0; column < depths[row].length; column++) {
                if (depths[row][column] >= 0) {
                    x.notice(5, 0, 16 * column, 16 * row, depths[row][column]);
                }
            }
        }
        return x;
    }

    private static void isWay(String name, SoundingSheet x, int bottom, int narrow, int... squares) {
        int a = squares[0];
        int b = squares[squares.length - 1];
        DUE.is(name + ": deepest", x.deepest(0, a, b), bottom);
        DUE.is(name + ": narrow", x.narrow(0, a, b), narrow);
        for (int i = 0; i < squares.length; i++) {
            DUE.is(name + ": way " + i, x.way(0, a, b, i), squares[i]);
        }
        DUE.is(name + ": no more", x.way(0, a, b, squares.length), NONE);
        DUE.is(name + ": not ahead of it", x.way(0, a, b, -1), NONE);
        DUE.yes(name + ": draught", x.draught(0, a, b, bottom));
        DUE.no(name + ": draught beyond", x.draught(0, a, b, bottom + 1));
    }

    private static void isNoWay(String name, SoundingSheet x, int day, int a, int b) {
        DUE.is(name + ": deepest", x.deepest(day, a, b), UNKNOWN);
        DUE.is(name + ": narrow", x.narrow(day, a, b), NONE);
        DUE.is(name + ": way", x.way(day, a, b, 0), NONE);
        DUE.no(name + ": draught", x.draught(day, a, b, Integer.MIN_VALUE));
        DUE.no(name + ": draught", x.draught(day, a, b, UNKNOWN));
    }

    private static void theDeepWayGoesAround() {
        SoundingSheet x = drawn(new int[][] {{90, 10, 90}, {70, 20, 80}, {90, 60, 90}});
        isWay("around the shoal", x, 60, 33, 0, 16, 32, 33, 34, 18, 2);
        isWay("back", x, 60, 33, 2, 18, 34, 33, 32, 16, 0);
        isWay("onto the shoal", x, 10, 1, 0, 1);
        isWay("from the shoal", x, 10, 1, 1, 0);
    }

    private static void fewestSquaresThenLesserNumbers() {
        SoundingSheet x = drawn(new int[][] {{50, 50, 50}, {50, 50, 50}, {50, 50, 50}});
        isWay("right ahead of down", x, 50, 0, 0, 1, 2, 18, 34);
        isWay("up ahead of left", x, 50, 34, 34, 18, 2, 1, 0);
        isWay("left ahead of down", x, 50, 2, 2, 1, 0, 16, 32);
        isWay("up ahead of right", x, 50, 32, 32, 16, 0, 1, 2);
        SoundingSheet y = drawn(new int[][] {{50, 40, 60}, {60, 45, 60}, {60, 60, 60}});
        isWay("the bottom counts ahead of the length", y, 50, 0, 0, 16, 32, 33, 34, 18, 2);
        isWay("the end bounds it", y, 40, 1, 16, 0, 1);
    }

    /**
     * Two ways of as many squares: one goes up first and comes to its end from below, the other one
     * goes down first and comes from above. Only where they part first counts.
     */
    private static void theyPartAtTheFirstSquare() {
        int a = 16 * 5 + 1;
        int b = 16 * 5 + 5;
        int[] up = {a, a - 16, a - 32, a - 48, 34, 35, 36, 37, 38, 39, 55, 71, 87, 103, 102, 101, b};
        int[] down = {a, a + 16, a + 32, a + 48, a + 64, a + 80, 162, 163, 147, 131, 115, 99, 83, 67, 68, 69, b};
        SoundingSheet x = new SoundingSheet();
        for (int i = 0; i < up.length; i++) {
            x.notice(5, 0, 16 * (up[i] % 16), up[i], 50);
            x.notice(5, 0, 16 * (down[i] % 16), down[i], 50);
        }
        isWay("up first", x, 50, a, up);
        int[] back = new int[down.length];
        for (int i = 0; i < down.length; i++) {
            back[i] = down[down.length - 1 - i];
        }
        isWay("back: up first", x, 50, b, back);
        x.notice(5, 0, 16 * (36 % 16), 36, 49);
        isWay("down, as it is deeper", x, 50, a, down);
    }

    private static void theFirstNarrowOfSeveral() {
        SoundingSheet x = drawn(new int[][] {{90, 60, 70, 60, 80, 60, 90}});
        isWay("three as narrow", x, 60, 1, 0, 1, 2, 3, 4, 5, 6);
        isWay("from the other end", x, 60, 5, 6, 5, 4, 3, 2, 1, 0);
        isWay("between two", x, 60, 3, 2, 3, 4);
        SoundingSheet y = drawn(new int[][] {{60, 90, 60}});
        isWay("the last one, too", y, 60, 0, 0, 1, 2);
        isWay("narrow at the end", y, 60, 2, 1, 2);
    }

    private static void theBottomIsAtLeastD() {
        SoundingSheet x = drawn(new int[][] {{9999, 40, 9999}, {9999, -1, 9999}, {9999, 0, 9999}});
        x.notice(4, 0, 48, 0, -200);
        int[][] want = {{0, 2, 40}, {0, 34, 40}, {0, 16, 9999}, {0, 3, -200}, {3, 3, -200}, {33, 33, 0}, {0, 33, 0}};
        for (int[] w : want) {
            String name = "from " + w[0] + " to " + w[1];
            DUE.is(name, x.deepest(0, w[0], w[1]), w[2]);
            DUE.yes(name + ", less", x.draught(0, w[0], w[1], w[2] - 1));
            DUE.yes(name + ", as deep", x.draught(0, w[0], w[1], w[2]));
            DUE.no(name + ", more", x.draught(0, w[0], w[1], w[2] + 1));
            DUE.yes(name + ", UNKNOWN's number", x.draught(0, w[0], w[1], UNKNOWN));
            DUE.yes(name + ", the least", x.draught(0, w[0], w[1], Integer.MIN_VALUE));
            DUE.no(name + ", the greatest", x.draught(0, w[0], w[1], Integer.MAX_VALUE));
        }
    }

    private static void rowsDoNotJoinAtTheirEnds() {
        SoundingSheet x = new SoundingSheet();
        x.notice(5, 0, 255, 0, 5);
        x.notice(5, 0, 0, 16, 5);
        isNoWay("15 and 16", x, 0, 15, 16);
        isNoWay("16 and 15", x, 0, 16, 15);
        x.notice(5, 0, 0, 255, 5);
        isNoWay("240 and 0's side", x, 0, 240, 16);
    }

    private static void unknownSquaresBar() {
        SoundingSheet x = drawn(new int[][] {{50, -1, 50}, {50, -1, 50}, {50, 50, 50}});
        isWay("around what is UNKNOWN", x, 50, 0, 0, 16, 32, 33, 34, 18, 2);
        isNoWay("to what is UNKNOWN", x, 0, 0, 1);
        isNoWay("from what is UNKNOWN", x, 0, 1, 0);
        isNoWay("UNKNOWN alone", x, 0, 1, 1);
        x.gone(5, 0);
        isNoWay("barred", x, 0, 0, 2);
    }

    private static void oneSquareAlone() {
        SoundingSheet x = drawn(new int[][] {{50}});
        isWay("one", x, 50, 0, 0);
        SoundingSheet y = new SoundingSheet();
        y.notice(4, 0, 255, 255, -200);
        isWay("a rock", y, -200, 255, 255);
    }

    private static void theLongestWay() {
        SoundingSheet x = new SoundingSheet();
        x.line(0, 1500);
        x.tide(0, 0, 0);
        x.sweep(0, 0, 0, 0, 256, 256, 100);
        // Walls of little depth with a gap by turns at the right and at the left.
        for (int row = 1; row < 16; row += 2) {
            int gap = row % 4 == 1 ? 15 : 0;
            for (int column = 0; column < 16; column++) {
                if (column != gap) {
                    x.notice(5, 0, 16 * column, 16 * row, 1);
                }
            }
        }
        DUE.is("the BOTTOM of the winding way", x.deepest(0, 0, 224), 100);
        DUE.is("its end", x.way(0, 0, 224, 8 * 16 + 7 - 1), 224);
        DUE.is("no more", x.way(0, 0, 224, 8 * 16 + 7), NONE);
        DUE.is("narrow at the start", x.narrow(0, 0, 224), 0);
        DUE.is("through the last gap", x.way(0, 0, 240, 8 * 16 + 7), 240);
        DUE.is("onto the last wall", x.deepest(0, 0, 255), 1);
        DUE.is("straight as all are no deeper", x.way(0, 0, 255, 30), 255);
    }

    private static void waysGoByDays() {
        SoundingSheet x = new SoundingSheet();
        x.notice(5, 0, 0, 0, 10);
        x.notice(5, 1, 16, 0, 20);
        x.notice(5, 2, 0, 0, 5);
        isNoWay("day 0", x, 0, 0, 1);
        DUE.is("day 1", x.deepest(1, 0, 1), 10);
        DUE.is("day 2", x.deepest(2, 0, 1), 5);
        DUE.is("day 99", x.narrow(99, 1, 0), 0);
    }

    private static void wrongCalls() {
        SoundingSheet x = new SoundingSheet();
        x.line(0, 1500);
        x.tide(0, 0, 0);
        x.sweep(0, 0, 0, 0, 256, 256, 100);
        int[][] wrong = {{-1, 0, 1}, {100, 0, 1}, {0, -1, 1}, {0, 256, 1}, {0, 0, -1}, {0, 0, 256},
            {Integer.MIN_VALUE, 0, 0}, {0, Integer.MAX_VALUE, 0}, {0, 0, Integer.MAX_VALUE}};
        for (int[] w : wrong) {
            DUE.is("a right way ahead of it", x.way(0, 0, 1, 0), 0);
            isNoWay("wrong", x, w[0], w[1], w[2]);
        }
        DUE.is("way beyond all", x.way(0, 0, 1, Integer.MAX_VALUE), NONE);
        DUE.is("way ahead of all", x.way(0, 0, 1, Integer.MIN_VALUE), NONE);
        DUE.yes("the least draught", x.draught(0, 0, 255, Integer.MIN_VALUE));
        DUE.no("the greatest draught", x.draught(0, 0, 255, Integer.MAX_VALUE));
    }
}
