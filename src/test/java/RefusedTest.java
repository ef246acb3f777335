import java.util.Arrays;
import java.util.List;
import java.util.function.Supplier;

/**
 * Calls that are refused for what is there and not for a bound of their arguments alone: none such,
 * that was so, no image, no act, several things wrong at once. None of them changes anything.
 */
public final class RefusedTest {
    private static final Due DUE = new Due();
    private static final int NONE = SoundingSheet.NONE;
    private static final int UNKNOWN = SoundingSheet.UNKNOWN;

    public static void main(String[] args) {
        aNewObjectHasNoLinesTidesSoundings();
        aNewObjectAnswersQuestions();
        goneThatWasSo();
        goneThatIsSoNoMore();
        noImage();
        noAct();
        severalThingsWrong();
        numbersEndWithWhatIsThere();
        whatWasUndoneIsNoMore();
        questionsChangeNothing();
        questionsDoNotMix();
        DUE.end();
    }

    private static void refused(String name, Supplier<SoundingSheet> office, int answer, String call, int... args) {
        Look.unchanged(DUE, name, office, answer, call, args);
    }

    private static SoundingSheet office() {
        SoundingSheet x = new SoundingSheet();
        x.line(3, 1500);
        x.line(5, 1500);
        x.tide(3, 600, 10);
        x.tide(5, 600, 10);
        x.lead(0, 600, 10, 10, 100);
        x.echo(1, 600, 10, 10, 0x42c80000);
        x.sweep(0, 600, 0, 0, 64, 64, 90);
        x.notice(3, 4, 10, 10, 20);
        return x;
    }

    private static void aNewObjectHasNoLinesTidesSoundings() {
        Supplier<SoundingSheet> office = SoundingSheet::new;
        refused("no line for a SPEED", office, 0, "speed", 0, 1500);
        refused("no line for a SHIFT", office, 0, "shift", 0, 0);
        refused("no line for a LEAD", office, NONE, "lead", 0, 0, 0, 0, 0);
        refused("no line for an ECHO", office, NONE, "echo", 0, 0, 0, 0, 0);
        refused("no line for a SWEPT span", office, NONE, "sweep", 0, 0, 0, 0, 1, 1, 0);
        refused("no sounding to be GONE", office, 0, "gone", 0, 0);
        refused("no act", office, 0, "undo");
        refused("no image", office, 0, "load");
        for (int what = 0; what <= 3; what++) {
            refused("count " + what, office, 0, "count", what);
        }
        DUE.is("the first line", new SoundingSheet().line(0, 1400), 0);
        DUE.is("the first height", new SoundingSheet().tide(0, 0, 0), 1);
        DUE.is("the first notice", new SoundingSheet().notice(5, 0, 0, 0, 0), 0);
    }

    private static void aNewObjectAnswersQuestions() {
        Supplier<SoundingSheet> office = SoundingSheet::new;
        refused("sounding", office, NONE, "sounding", 0, 0);
        refused("depth", office, UNKNOWN, "depth", 0);
        refused("boat", office, NONE, "boat", 0, 0);
        refused("water", office, UNKNOWN, "water", 0, 0, 1);
        refused("cross", office, NONE, "cross", 0, 1, 400, 0);
        refused("what it MISSES by", office, UNKNOWN, "cross", 0, 1, 400, 3);
        refused("worst", office, NONE, "worst", 400);
        refused("shown", office, NONE, "shown", 0, 1, 0, 0);
        refused("why", office, NONE, "why", 0, 1, 0);
        refused("bottom", office, UNKNOWN, "bottom", 0, 0);
        refused("deepest", office, UNKNOWN, "deepest", 0, 0, 0);
        refused("way", office, NONE, "way", 0, 0, 0, 0);
        refused("narrow", office, NONE, "narrow", 0, 0, 0);
        refused("draught", office, 0, "draught", 0, 0, 0, Integer.MIN_VALUE);
        refused("check", office, 2, "check", 0, 0, 0);
    }

    private static void goneThatWasSo() {
        for (int s = 0; s < 4; s++) {
            int sounding = s;
            refused("never GONE at first", RefusedTest::office, 0, "gone", s, 100);
            for (int day : new int[] {0, 1, 50, 99}) {
                Supplier<SoundingSheet> office = () -> Look.after(RefusedTest::office, "gone", sounding, day);
                refused("GONE from " + day, office, 0, "gone", s, day);
                DUE.is("GONE a day later than " + day, Calls.call(office.get(), "gone", s, day + 1), 1);
            }
        }
    }

    private static void goneThatIsSoNoMore() {
        SoundingSheet x = office();
        DUE.yes("GONE from 7", x.gone(3, 7));
        DUE.yes("never", x.gone(3, 100));
        DUE.no("never, as it was", x.gone(3, 100));
        DUE.yes("GONE from 7 again", x.gone(3, 7));
        x.undo();
        DUE.no("never, as undone", x.gone(3, 100));
        x.undo();
        DUE.no("GONE from 7, as undone", x.gone(3, 7));
        x.undo();
        DUE.no("never, as at first", x.gone(3, 100));
        DUE.is("acts", x.count(3), 8);
        x.image();
        x.gone(3, 9);
        x.load();
        DUE.no("never, as in the image", x.gone(3, 100));
        DUE.yes("GONE from 9", x.gone(3, 9));
        DUE.is("acts", x.count(3), 1);
    }

    private static void noImage() {
        refused("load() without an image", RefusedTest::office, 0, "load");
        Supplier<SoundingSheet> twice = () -> Look.after(RefusedTest::office, "load");
        refused("and once more", twice, 0, "load");
        SoundingSheet x = twice.get();
        DUE.is("acts that stay", x.count(3), 8);
        x.image();
        DUE.yes("load() with an image", x.load());
        DUE.yes("and once more", x.load());
        SoundingSheet other = new SoundingSheet();
        DUE.no("another object's image is none", other.load());
    }

    private static void noAct() {
        Supplier<SoundingSheet> allUndone = () -> {
            SoundingSheet x = office();
            for (int i = 0; i < 8; i++) {
                x.undo();
            }
            return x;
        };
        refused("undo() of all that was undone", allUndone, 0, "undo");
        Look.same(DUE, "undone to nothing", Look.at(SoundingSheet::new), allUndone);
        Supplier<SoundingSheet> loaded = () -> {
            SoundingSheet x = office();
            x.image();
            x.load();
            return x;
        };
        refused("undo() after a load()", loaded, 0, "undo");
        Supplier<SoundingSheet> oneMore = () -> {
            SoundingSheet x = loaded.get();
            x.notice(5, 0, 0, 0, 0);
            x.undo();
            return x;
        };
        refused("undo() of one more than after a load()", oneMore, 0, "undo");
        Look.same(DUE, "an act after a load(), undone,", Look.at(loaded), oneMore);
        Supplier<SoundingSheet> asked = () -> Look.after(SoundingSheet::new, "count", 0);
        refused("a question is no act", asked, 0, "undo");
        DUE.no("an image is no act", withImage(new SoundingSheet()).undo());
    }

    private static SoundingSheet withImage(SoundingSheet x) {
        x.image();
        return x;
    }

    private static void severalThingsWrong() {
        int low = Integer.MIN_VALUE;
        int high = Integer.MAX_VALUE;
        for (int v : new int[] {low, -2, high}) {
            refused("line", RefusedTest::office, NONE, "line", v, v);
            refused("tide", RefusedTest::office, NONE, "tide", v, v, v == -2 ? 201 : v);
            refused("speed", RefusedTest::office, 0, "speed", v, v);
            refused("shift", RefusedTest::office, 0, "shift", v, v == -2 ? 51 : v);
            refused("lead", RefusedTest::office, NONE, "lead", v, v, v, v, v);
            refused("echo", RefusedTest::office, NONE, "echo", v, v, v, v, -1);
            refused("sweep", RefusedTest::office, NONE, "sweep", v, v, v, v, v, v, v);
            refused("notice", RefusedTest::office, NONE, "notice", v, v, v, v, v);
            refused("gone", RefusedTest::office, 0, "gone", v, v);
            refused("count", RefusedTest::office, NONE, "count", v);
            refused("sounding", RefusedTest::office, NONE, "sounding", v, v);
            refused("depth", RefusedTest::office, UNKNOWN, "depth", v);
            refused("boat", RefusedTest::office, NONE, "boat", v, v);
            refused("water", RefusedTest::office, UNKNOWN, "water", v, v, v);
            refused("cross", RefusedTest::office, NONE, "cross", v, v, v, v);
            refused("what it MISSES by", RefusedTest::office, UNKNOWN, "cross", v, v, v, 3);
            refused("worst", RefusedTest::office, NONE, "worst", v);
            refused("shown", RefusedTest::office, NONE, "shown", v, v, v, v);
            refused("why", RefusedTest::office, NONE, "why", v, v, v);
            refused("bottom", RefusedTest::office, UNKNOWN, "bottom", v, v);
            refused("deepest", RefusedTest::office, UNKNOWN, "deepest", v, v, v);
            refused("way", RefusedTest::office, NONE, "way", v, v, v, v);
            refused("narrow", RefusedTest::office, NONE, "narrow", v, v, v);
            refused("draught", RefusedTest::office, 0, "draught", v, v, v, low);
            refused("check", RefusedTest::office, -2, "check", v, v, v);
        }
    }

    private static void numbersEndWithWhatIsThere() {
        for (int n = 0; n < 20; n++) {
            SoundingSheet x = new SoundingSheet();
            for (int i = 0; i < n; i++) {
                x.line(i, 1500);
                x.notice(5, i, i, i, i);
            }
            DUE.is("the last line of " + n, x.boat(n - 1, 0), n - 1);
            DUE.is("none behind it", x.boat(n, 0), NONE);
            DUE.no("SPEED of none", x.speed(n, 1500));
            DUE.no("SHIFT of none", x.shift(n, 0));
            DUE.is("LEAD of none", x.lead(n, 0, 0, 0, 0), NONE);
            DUE.is("the last sounding of " + n, x.depth(n - 1), n == 0 ? UNKNOWN : n - 1);
            DUE.is("none behind it", x.depth(n), UNKNOWN);
            DUE.is("none behind it", x.sounding(n, 7), NONE);
            DUE.is("none behind it", x.why(99, 6, n), NONE);
            DUE.no("none to be GONE", x.gone(n, 0));
            DUE.is("the next line", x.line(99, 1500), n);
            DUE.is("the next sounding", x.notice(5, 0, 0, 0, 0), n);
        }
    }

    private static void whatWasUndoneIsNoMore() {
        SoundingSheet x = office();
        x.line(7, 1500);
        x.undo();
        DUE.no("SPEED of an undone line", x.speed(2, 1500));
        DUE.no("SHIFT of an undone line", x.shift(2, 1));
        DUE.is("a LEAD of an undone line", x.lead(2, 600, 0, 0, 0), NONE);
        DUE.is("an undone line", x.boat(2, 1), NONE);
        DUE.is("its CROSSING", x.cross(0, 2, 400, 3), UNKNOWN);
        x.undo();
        DUE.no("an undone sounding GONE", x.gone(3, 1));
        DUE.is("its depth", x.depth(3), UNKNOWN);
        DUE.is("why", x.why(9, 6, 3), NONE);
        DUE.is("it is in no sheet", x.shown(4, 6, 0, 1), NONE);
        DUE.is("acts", x.count(3), 7);
    }

    private static void questionsChangeNothing() {
        List<String> before = Look.at(RefusedTest::office);
        Look.same(DUE, "all questions", before, () -> {
            SoundingSheet x = office();
            int[] right = {x.count(2), x.sounding(2, 9), x.depth(1), x.boat(1, 3), x.water(3, 600, 9),
                x.cross(0, 1, 9, 3), x.worst(9), x.shown(9, 6, 0, 1), x.why(9, 6, 1), x.bottom(9, 0),
                x.deepest(9, 0, 33), x.way(9, 0, 33, 1), x.narrow(9, 0, 33), x.check(9, 0, 20),
                x.draught(9, 0, 33, 20) ? 1 : 0};
            int[] want = {0, 64, 65, 1, 90, 25, 0, 3, 0, 20, 20, 1, 0, NONE, 1};
            for (int i = 0; i < want.length; i++) {
                DUE.is("question " + i, right[i], want[i]);
            }
            return x;
        });
    }

    /** Squares with many and with few soundings, two ways, two pairs of lines, two days. */
    private static SoundingSheet manyThings() {
        SoundingSheet x = office();
        x.lead(0, 600, 12, 3, 70);
        x.lead(1, 600, 3, 12, 75);
        x.notice(5, 4, 1, 1, 60);
        x.notice(5, 4, 2, 9, 61);
        x.notice(5, 4, 20, 9, 62);
        x.notice(5, 4, 40, 9, 63);
        x.notice(5, 4, 41, 9, 64);
        x.line(3, 1600);
        x.lead(2, 600, 250, 250, 9);
        return x;
    }

    /** No answer depends on what was asked ahead of it. */
    private static void questionsDoNotMix() {
        String[] names = {"shown", "shown", "shown", "why", "why", "cross", "cross", "worst", "bottom", "bottom",
            "deepest", "deepest", "way", "way", "narrow", "draught", "check", "water", "water", "depth", "sounding",
            "count", "boat"};
        int[][][] args = {{{3, 1, 0, 0}, {9, 1, 0, 0}, {9, 6, 0, 5}, {9, 1, 2, 0}}, {{9, 6, 1, 0}, {9, 6, 1, 1}, {9, 6, 1, 2}},
            {{9, 6, 2, 1}, {9, 6, 2, 2}, {9, 6, 255, 1}, {9, 6, 77, 0}}, {{9, 1, 0}, {9, 6, 0}, {9, 1, 6}},
            {{9, 6, 8}, {9, 1, 10}, {3, 6, 10}}, {{0, 1, 9, 0}, {0, 1, 9, 3}, {0, 1, 0, 1}}, {{0, 2, 400, 2}, {1, 2, 9, 3}},
            {{0}, {400}}, {{9, 0}, {9, 1}, {9, 77}}, {{3, 0}, {3, 51}, {0, 0}}, {{9, 0, 33}, {9, 33, 0}, {9, 0, 255}},
            {{3, 0, 33}, {0, 0, 0}}, {{9, 0, 51, 3}, {9, 51, 0, 3}, {9, 0, 1, 2}}, {{3, 0, 51, 6}, {3, 0, 51, 7}},
            {{9, 0, 51}, {9, 51, 34}, {9, 0, 77}}, {{9, 0, 33, 20}, {9, 0, 33, 21}}, {{9, 0, 20}, {9, 77, 20}},
            {{3, 600, 1}, {3, 601, 1}}, {{5, 600, 1439}, {9, 600, 1}}, {{0}, {1}, {99}}, {{0, 10}, {2, 8}}, {{2}, {3}},
            {{0, 3}, {2, 3}}};
        for (int i = 0; i < names.length; i++) {
            for (int[] asked : args[i]) {
                int alone = Calls.call(manyThings(), names[i], asked);
                for (int j = 0; j < names.length; j++) {
                    for (int[] ahead : args[j]) {
                        SoundingSheet x = manyThings();
                        Calls.call(x, names[j], ahead);
                        String name = names[j] + Arrays.toString(ahead) + " ahead of " + names[i] + Arrays.toString(asked);
                        DUE.is(name, Calls.call(x, names[i], asked), alone);
                    }
                }
            }
        }
    }
}
