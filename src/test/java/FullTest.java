import java.util.List;
import java.util.function.Supplier;

/** What is full: 20 LINES, 12 heights of a day, 200 SOUNDINGS, 20 ACTS that can be undone. */
public final class FullTest {
    private static final Due DUE = new Due();
    private static final int NONE = SoundingSheet.NONE;

    public static void main(String[] args) {
        linesUpToTwenty();
        heightsUpToTwelve();
        heightsInPlaceWhenFull();
        soundingsUpToTwoHundred();
        fullWithoutActs();
        fullWithOtherActs();
        otherActsGoOnWhenFull();
        actsUpToTwenty();
        theOldestActStays();
        loadFillsAndEmpties();
        DUE.end();
    }

    private static SoundingSheet withLines(int n) {
        SoundingSheet x = new SoundingSheet();
        for (int i = 0; i < n; i++) {
            x.line(i % 100, 1500 + i);
        }
        return x;
    }

    private static void refused(String name, Supplier<SoundingSheet> office, int answer, String call, int... args) {
        Look.unchanged(DUE, name, office, answer, call, args);
    }

    private static void linesUpToTwenty() {
        DUE.is("the 20th line", withLines(19).line(7, 1400), 19);
        refused("the 21st line", () -> withLines(20), NONE, "line", 7, 1400);
        SoundingSheet x = withLines(20);
        DUE.is("the 21st line", x.line(7, 1400), NONE);
        DUE.yes("undo()", x.undo());
        DUE.is("room for one", x.line(7, 1400), 19);
        DUE.is("its day", x.boat(19, 0), 7);
        DUE.is("no more", x.line(7, 1400), NONE);
    }

    private static SoundingSheet withHeights(int day, int n) {
        SoundingSheet x = new SoundingSheet();
        for (int i = 0; i < n; i++) {
            x.tide(day, i % 2 == 0 ? 120 * i : 1439 - 120 * i, 10 * i - 100);
        }
        return x;
    }

    private static void heightsUpToTwelve() {
        for (int day : new int[] {0, 50, 99}) {
            DUE.is("the 12th height of day " + day, withHeights(day, 11).tide(day, 1, 5), 12);
            refused("the 13th of day " + day, () -> withHeights(day, 12), NONE, "tide", day, 1, 5);
            SoundingSheet x = withHeights(day, 12);
            DUE.is("the 13th", x.tide(day, 1, 5), NONE);
            DUE.is("another day's first", x.tide(day == 0 ? 1 : day - 1, 1, 5), 1);
            DUE.is("another day's first", x.tide(day == 99 ? 0 : day + 1, 1, 5), 1);
            x.undo();
            x.undo();
            x.undo();
            DUE.is("room for one", x.tide(day, 1, 5), 12);
            DUE.is("water at it", x.water(day, 1, 1), 5);
            DUE.is("no more", x.tide(day, 2, 5), NONE);
        }
    }

    private static void heightsInPlaceWhenFull() {
        SoundingSheet x = withHeights(99, 12);
        for (int i = 0; i < 12; i++) {
            int minute = i % 2 == 0 ? 120 * i : 1439 - 120 * i;
            DUE.is("in place of height " + i, x.tide(99, minute, 100 + i), 12);
            DUE.is("the height " + i, x.water(99, minute, 1), 100 + i);
            DUE.is("beside it", x.tide(99, minute + 1, 100), NONE);
        }
    }

    private static SoundingSheet withSoundings(int n) {
        SoundingSheet x = new SoundingSheet();
        x.line(5, 1500);
        x.tide(5, 600, 10);
        for (int i = 0; i < n; i++) {
            add(x, i % 6, i);
        }
        return x;
    }

    private static int add(SoundingSheet x, int kind, int at) {
        return switch (kind) {
            case 0 -> x.lead(0, 600, at, 9, 7);
            case 1 -> x.echo(0, 600, at, 9, Float.floatToRawIntBits(8f));
            case 2 -> x.sweep(0, 600, at, 9, 2, 3, 7);
            default -> x.notice(kind, 5, at, 9, kind == 4 ? -7 : 7);
        };
    }

    private static void soundingsUpToTwoHundred() {
        for (int kind = 0; kind < 6; kind++) {
            SoundingSheet x = withSoundings(199);
            DUE.is("the 200th, of KIND " + kind, add(x, kind, 77), 199);
            DUE.is("its x", x.sounding(199, 1), 77);
            DUE.is("the 201st", add(x, kind, 77), NONE);
            DUE.yes("undo()", x.undo());
            DUE.is("room for one", add(x, 5 - kind, 78), 199);
            DUE.is("its KIND", x.sounding(199, 0), 5 - kind);
            DUE.is("its w", x.sounding(199, 8), 5 - kind == 2 ? 2 : 1);
            DUE.is("no more", add(x, kind, 79), NONE);
            DUE.is("soundings", x.count(1), 200);
        }
        List<String> before = Look.at(() -> withSoundings(200));
        Look.same(DUE, "the 201st to the 206th", before, () -> {
            SoundingSheet x = withSoundings(200);
            for (int kind = 0; kind < 6; kind++) {
                add(x, kind, 77);
            }
            return x;
        });
    }

    /** 20 lines, 12 heights on day 5 and 200 soundings; no act can be undone. */
    private static SoundingSheet allFull() {
        SoundingSheet x = withLines(20);
        for (int i = 0; i < 12; i++) {
            x.tide(5, 100 * i, i);
        }
        for (int i = 0; i < 200; i++) {
            add(x, i % 6, i);
        }
        x.image();
        x.load();
        return x;
    }

    /** A refused call that counted as an act would be the only one here. */
    private static void fullWithoutActs() {
        eachIsRefused("no acts", FullTest::allFull);
        SoundingSheet x = allFull();
        DUE.is("lines", x.count(0), 20);
        DUE.is("soundings", x.count(1), 200);
        DUE.is("acts", x.count(3), 0);
    }

    /** A refused call that counted as an act would be undone in place of these. */
    private static void fullWithOtherActs() {
        eachIsRefused("two acts", () -> {
            SoundingSheet x = allFull();
            x.gone(7, 50);
            x.shift(3, 4);
            return x;
        });
        eachIsRefused("twenty acts", () -> {
            SoundingSheet x = allFull();
            for (int i = 0; i < 10; i++) {
                x.gone(7, 50 + i);
                x.shift(i, 4 + i);
            }
            return x;
        });
    }

    private static void eachIsRefused(String name, Supplier<SoundingSheet> office) {
        refused(name + ": line", office, NONE, "line", 5, 1500);
        refused(name + ": tide", office, NONE, "tide", 5, 50, 1);
        refused(name + ": lead", office, NONE, "lead", 0, 0, 0, 0, 0);
        refused(name + ": echo", office, NONE, "echo", 0, 0, 0, 0, 0);
        refused(name + ": sweep", office, NONE, "sweep", 0, 0, 0, 0, 1, 1, 0);
        refused(name + ": notice of a WRECK", office, NONE, "notice", 3, 5, 0, 0, 0);
        refused(name + ": notice of a ROCK", office, NONE, "notice", 4, 5, 0, 0, -1);
        refused(name + ": notice of one REPORTED", office, NONE, "notice", 5, 5, 0, 0, 0);
    }

    private static void otherActsGoOnWhenFull() {
        SoundingSheet x = withSoundings(200);
        DUE.is("a line", x.line(6, 1500), 1);
        DUE.is("a height", x.tide(5, 601, 10), 2);
        DUE.yes("a SPEED", x.speed(0, 1600));
        DUE.yes("a SHIFT", x.shift(0, 1));
        DUE.yes("the last one GONE", x.gone(199, 7));
        DUE.no("the one behind it", x.gone(200, 7));
        DUE.is("depth of the last", x.depth(199), 8 * 1600 / 2000 + 1 - 10);
        DUE.is("depth behind it", x.depth(200), SoundingSheet.UNKNOWN);
        DUE.is("soundings of the line", x.boat(0, 3), 101);
    }

    private static void actsUpToTwenty() {
        for (int n = 18; n <= 43; n++) {
            SoundingSheet x = withSoundings(n);
            int acts = n + 2;
            int most = Math.min(20, acts);
            DUE.is("acts of " + acts, x.count(3), most);
            for (int i = 1; i <= most; i++) {
                DUE.yes("undo " + i + " of " + acts, x.undo());
                DUE.is("acts left", x.count(3), most - i);
            }
            DUE.no("one more of " + acts, x.undo());
            DUE.is("acts left", x.count(3), 0);
            DUE.is("soundings left of " + n, x.count(1), Math.max(0, n - 20));
            DUE.is("lines left", x.count(0), acts > 20 ? 1 : 0);
        }
    }

    /** The first act is of each kind in turn; twenty more push it out, nineteen don't. */
    private static void theOldestActStays() {
        for (int kind = 0; kind < 9; kind++) {
            for (int more = 19; more <= 20; more++) {
                SoundingSheet x = afterAct(kind, more);
                for (int i = 0; i < 20; i++) {
                    DUE.yes("undo " + i, x.undo());
                }
                DUE.no("act " + kind + " and " + more + " more, 20 undone", x.undo());
                DUE.is("act " + kind + " and " + more + " more", trace(x, kind), more == 20 ? 1 : 0);
            }
        }
    }

    private static SoundingSheet afterAct(int kind, int more) {
        SoundingSheet x = new SoundingSheet();
        x.line(5, 1500);
        x.tide(5, 600, 10);
        x.notice(5, 5, 0, 0, 7);
        x.image();
        x.load();
        String[] acts = {"line", "tide", "tide", "speed", "shift", "lead", "sweep", "notice", "gone"};
        int[][] args = {{6, 1600}, {5, 700, 20}, {5, 600, 20}, {0, 1600}, {0, 9}, {0, 600, 1, 1, 1},
            {0, 600, 1, 1, 2, 2, 1}, {3, 6, 1, 1, 1}, {0, 9}};
        Calls.call(x, acts[kind], args[kind]);
        for (int i = 0; i < more; i++) {
            x.tide(80 + i % 3, i / 3, i);
        }
        return x;
    }

    /** 1 if the act of the kind is still to be seen. */
    private static int trace(SoundingSheet x, int kind) {
        return switch (kind) {
            case 0 -> x.count(0) - 1;
            case 1 -> x.water(5, 650, 1) == 15 ? 1 : 0;
            case 2 -> x.water(5, 600, 1) == 20 ? 1 : 0;
            case 3 -> x.boat(0, 1) == 1600 ? 1 : 0;
            case 4 -> x.boat(0, 2) == 9 ? 1 : 0;
            case 5, 6, 7 -> x.count(1) - 1;
            default -> x.sounding(0, 7) == 9 ? 1 : 0;
        };
    }

    private static void loadFillsAndEmpties() {
        SoundingSheet x = withSoundings(0);
        x.image();
        for (int i = 0; i < 200; i++) {
            add(x, i % 6, i);
        }
        DUE.is("full", add(x, 0, 0), NONE);
        DUE.yes("load() of what was empty", x.load());
        DUE.is("the first again", add(x, 5, 0), 0);
        DUE.is("acts", x.count(3), 1);
        Supplier<SoundingSheet> loaded = () -> {
            SoundingSheet y = withSoundings(200);
            y.image();
            y.undo();
            y.load();
            return y;
        };
        refused("one more after a load() of what was full", loaded, NONE, "lead", 0, 600, 1, 1, 1);
        refused("undo() after a load() of what was full", loaded, 0, "undo");
        DUE.is("acts after a load()", loaded.get().count(3), 0);
    }
}
