/** Promises 26 to 28: undo, image, load. */
public final class ActsTest {
    private static final Due DUE = new Due();

    public static void main(String[] args) {
        everyActIsUndone();
        oldValuesComeBack();
        refusalsAreNoActs();
        theLatestTwentyCanBeUndone();
        undoneActsMakeRoom();
        loadBringsAllBack();
        theImageStands();
        loadEndsUndoing();
        DUE.end();
    }

    private static void everyActIsUndone() {
        SoundingSheet x = new SoundingSheet();
        x.line(1, 1500);
        x.tide(1, 10, 5);
        x.tide(1, 10, 6);
        x.tide(1, 20, 8);
        x.speed(0, 1600);
        x.shift(0, 9);
        x.lead(0, 10, 1, 2, 30);
        x.echo(0, 10, 1, 2, 0);
        x.sweep(0, 10, 1, 2, 3, 4, 30);
        x.notice(3, 1, 1, 2, 30);
        x.gone(0, 50);
        x.gone(0, 60);
        DUE.is("acts", x.count(3), 12);
        undone(x, 11);
        DUE.is("GONE as it was", x.sounding(0, 7), 50);
        undone(x, 10);
        DUE.is("GONE never", x.sounding(0, 7), 100);
        for (int left = 3; left >= 0; left--) {
            undone(x, 6 + left);
            DUE.is("soundings", x.count(1), left);
            DUE.is("the sounding is no more", x.sounding(left, 0), SoundingSheet.NONE);
        }
        undone(x, 5);
        DUE.is("SHIFT", x.boat(0, 2), 0);
        undone(x, 4);
        DUE.is("SPEED", x.boat(0, 1), 1500);
        undone(x, 3);
        DUE.is("no later height", x.water(1, 15, 1), SoundingSheet.UNKNOWN);
        DUE.is("the earlier one", x.water(1, 10, 1), 6);
        undone(x, 2);
        DUE.is("the height as it was", x.water(1, 10, 1), 5);
        undone(x, 1);
        DUE.is("no height", x.water(1, 10, 1), SoundingSheet.UNKNOWN);
        undone(x, 0);
        DUE.is("no line", x.count(0), 0);
        DUE.no("nothing is left", x.undo());
        DUE.is("a new line is plain", x.line(2, 1400), 0);
        DUE.is("its SHIFT", x.boat(0, 2), 0);
        x.sweep(0, 0, 0, 0, 5, 5, 1);
        x.undo();
        x.lead(0, 0, 0, 0, 1);
        DUE.is("no span is left over", x.sounding(0, 8), 1);
        DUE.is("nor a day", x.sounding(0, 7), 100);
    }

    private static void oldValuesComeBack() {
        SoundingSheet x = new SoundingSheet();
        x.line(1, 1450);
        x.line(2, 1550);
        x.notice(5, 0, 0, 0, 0);
        for (int i = 1; i <= 4; i++) {
            x.speed(i % 2, 1400 + i);
            x.shift(i % 2, 10 * i - 25);
            x.tide(99, 1439, i);
            x.gone(0, 60 - i);
        }
        int[][] want = {{1404, 1403, 15, 5, 4, 56}, {1402, 1403, -5, 5, 3, 57}, {1402, 1401, -5, -15, 2, 58},
            {1450, 1401, 0, -15, 1, 59}, {1450, 1550, 0, 0, SoundingSheet.UNKNOWN, 100}};
        for (int[] w : want) {
            DUE.is("SPEED of line 0", x.boat(0, 1), w[0]);
            DUE.is("SPEED of line 1", x.boat(1, 1), w[1]);
            DUE.is("SHIFT of line 0", x.boat(0, 2), w[2]);
            DUE.is("SHIFT of line 1", x.boat(1, 2), w[3]);
            DUE.is("the height", x.water(99, 1439, 1), w[4]);
            DUE.is("GONE from", x.sounding(0, 7), w[5]);
            for (int i = 0; i < 4; i++) {
                x.undo();
            }
        }
    }

    private static void undone(SoundingSheet x, int left) {
        DUE.yes("undo()", x.undo());
        DUE.is("acts left", x.count(3), left);
    }

    private static void refusalsAreNoActs() {
        SoundingSheet x = new SoundingSheet();
        x.line(1, 1500);
        x.notice(5, 1, 0, 0, 0);
        x.line(100, 1500);
        x.tide(0, 0, 999);
        x.speed(1, 1500);
        x.shift(0, 99);
        x.lead(1, 0, 0, 0, 0);
        x.echo(0, 0, 0, 0, -1);
        x.sweep(0, 0, 0, 0, 0, 0, 0);
        x.notice(4, 0, 0, 0, 1);
        x.gone(0, 100);
        x.image();
        x.bottom(0, 0);
        DUE.is("acts", x.count(3), 2);
        DUE.yes("undo()", x.undo());
        DUE.is("soundings", x.count(1), 0);
    }

    private static void theLatestTwentyCanBeUndone() {
        SoundingSheet x = new SoundingSheet();
        for (int i = 0; i < 30; i++) {
            x.notice(5, 0, i, 0, i);
            DUE.is("acts", x.count(3), Math.min(20, i + 1));
        }
        for (int i = 0; i < 20; i++) {
            DUE.yes("undo " + i, x.undo());
        }
        DUE.no("the 21st", x.undo());
        DUE.is("soundings that stay", x.count(1), 10);
        DUE.is("the next number", x.notice(5, 0, 0, 0, 0), 10);
    }

    private static void undoneActsMakeRoom() {
        SoundingSheet x = new SoundingSheet();
        for (int i = 0; i < 25; i++) {
            x.notice(5, 0, i, 0, i);
        }
        for (int i = 0; i < 5; i++) {
            x.undo();
        }
        for (int i = 0; i < 3; i++) {
            x.notice(3, 0, i, 0, i);
        }
        DUE.is("acts", x.count(3), 18);
        for (int i = 0; i < 18; i++) {
            DUE.yes("undo " + i, x.undo());
        }
        DUE.no("the 19th", x.undo());
        DUE.is("soundings that stay", x.count(1), 5);
    }

    private static void loadBringsAllBack() {
        SoundingSheet x = new SoundingSheet();
        DUE.no("load() without an image", x.load());
        x.line(1, 1500);
        x.tide(1, 0, 10);
        x.shift(0, 3);
        x.sweep(0, 0, 0, 0, 16, 16, 100);
        x.notice(5, 2, 0, 0, 50);
        x.gone(1, 9);
        x.image();
        x.line(2, 1500);
        x.tide(1, 0, 20);
        x.tide(1, 9, 20);
        x.speed(0, 1600);
        x.shift(0, 0);
        x.gone(1, 3);
        x.notice(4, 2, 0, 0, -5);
        for (int i = 0; i < 2; i++) {
            DUE.yes("load()", x.load());
            DUE.is("lines", x.count(0), 1);
            DUE.is("soundings", x.count(1), 2);
            DUE.is("the TIDE", x.water(1, 0, 1), 10);
            DUE.is("no later TIDE", x.water(1, 9, 1), SoundingSheet.UNKNOWN);
            DUE.is("SPEED", x.boat(0, 1), 1500);
            DUE.is("SHIFT", x.boat(0, 2), 3);
            DUE.is("GONE", x.sounding(1, 7), 9);
            DUE.is("the span", x.sounding(0, 9), 16);
            DUE.is("bottom of day 1", x.bottom(1, 0), 93);
            DUE.is("bottom of day 2", x.bottom(2, 0), 50);
            x.gone(0, 0);
            x.gone(1, 0);
            x.shift(0, -50);
            x.tide(1, 0, 200);
        }
    }

    private static void theImageStands() {
        SoundingSheet x = new SoundingSheet();
        x.image();
        x.line(1, 1500);
        DUE.yes("load() of an empty image", x.load());
        DUE.is("lines", x.count(0), 0);
        x.line(1, 1500);
        x.image();
        DUE.yes("an image leaves acts", x.undo());
        DUE.is("lines", x.count(0), 0);
        x.notice(5, 0, 0, 0, 9);
        DUE.yes("load() of the later image", x.load());
        DUE.is("lines", x.count(0), 1);
        DUE.is("soundings", x.count(1), 0);
    }

    private static void loadEndsUndoing() {
        SoundingSheet x = new SoundingSheet();
        x.line(1, 1500);
        x.line(2, 1500);
        x.image();
        x.load();
        DUE.is("acts", x.count(3), 0);
        DUE.no("undo()", x.undo());
        DUE.is("lines", x.count(0), 2);
        x.line(3, 1500);
        DUE.is("acts", x.count(3), 1);
        DUE.yes("undo()", x.undo());
        DUE.no("undo()", x.undo());
        DUE.is("lines", x.count(0), 2);
        SoundingSheet y = new SoundingSheet();
        y.line(1, 1500);
        DUE.no("load() without an image", y.load());
        DUE.is("it does nothing", y.count(3), 1);
    }
}
