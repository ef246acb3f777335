import java.util.ArrayList;
import java.util.List;
import java.util.function.Supplier;

/**
 * All that the face tells of an office: as it is, after each undo() that it grants, after load(),
 * and what it answers to further acts. Two offices that look alike can't be told apart, so this is
 * how the tests see that a refused call changed nothing.
 *
 * <p>An office is good for 512 calls, so it is handed over as a way to make it, and a new one is
 * asked whenever the last has answered its share. Making one may take some 300 calls.
 */
final class Look {
    private static final int SHARE = 150;
    private static final int[] DAYS = {0, 3, 4, 5, 49, 50, 98, 99};
    private static final int[] MINUTES = {0, 1, 600, 603, 607, 608, 1438, 1439};
    private static final int[] SQUARES = {0, 1, 34, 136, 204, 255};

    private final Supplier<SoundingSheet> maker;
    private final List<String> seen;
    private final String when;
    private SoundingSheet x;
    private int asked = SHARE;

    private Look(Supplier<SoundingSheet> maker, List<String> seen, String when) {
        this.maker = maker;
        this.seen = seen;
        this.when = when;
    }

    static List<String> at(Supplier<SoundingSheet> office) {
        List<String> seen = new ArrayList<>();
        int acts = office.get().count(3);
        for (int k = 0; k <= acts + 1; k++) {
            int times = k;
            new Look(() -> undone(office.get(), times), seen, "after " + k + " undos ").all();
        }
        new Look(() -> loaded(office.get()), seen, "after a load ").all();
        new Look(office, seen, "further on ").goOn();
        return seen;
    }

    /** Prints the first answer in which an office differs from what was seen of another. */
    static void same(Due due, String name, List<String> before, Supplier<SoundingSheet> office) {
        List<String> after = at(office);
        int end = Math.min(before.size(), after.size());
        for (int i = 0; i < end; i++) {
            if (!before.get(i).equals(after.get(i))) {
                due.yes(name + " changed '" + before.get(i) + "' into '" + after.get(i) + "'", false);
                return;
            }
        }
        due.is(name + ": how much is seen", after.size(), before.size());
    }

    /** A call on an office answers as is due and changes nothing. */
    static void unchanged(Due due, String name, Supplier<SoundingSheet> office, int answer, String call, int... args) {
        List<String> before = at(office);
        due.is(name, Calls.call(office.get(), call, args), answer);
        same(due, name, before, () -> after(office, call, args));
    }

    /** An office on which one more call was made. */
    static SoundingSheet after(Supplier<SoundingSheet> office, String call, int... args) {
        SoundingSheet x = office.get();
        Calls.call(x, call, args);
        return x;
    }

    private static SoundingSheet undone(SoundingSheet x, int times) {
        for (int i = 0; i < times; i++) {
            x.undo();
        }
        return x;
    }

    private static SoundingSheet loaded(SoundingSheet x) {
        x.load();
        return x;
    }

    private int ask(String name, int... a) {
        if (asked >= SHARE) {
            x = maker.get();
            asked = 0;
        }
        asked++;
        int answer = Calls.call(x, name, a);
        StringBuilder told = new StringBuilder(when).append(name).append('(');
        for (int i = 0; i < a.length; i++) {
            told.append(i == 0 ? "" : ", ").append(a[i]);
        }
        seen.add(told.append(") is ").append(answer).toString());
        return answer;
    }

    private void all() {
        int lines = ask("count", 0);
        int soundings = ask("count", 1);
        ask("count", 2);
        ask("count", 3);
        for (int line = 0; line <= lines; line++) {
            for (int what = 0; what <= 3; what++) {
                ask("boat", line, what);
            }
        }
        for (int s = 0; s <= soundings; s++) {
            for (int what = 0; what <= 10; what++) {
                ask("sounding", s, what);
            }
            ask("depth", s);
            ask("why", 99, 2, s);
        }
        tides();
        crossings(lines);
        chart();
    }

    private void tides() {
        for (int day : DAYS) {
            for (int minute : MINUTES) {
                ask("water", day, minute, 1439);
            }
        }
    }

    private void crossings(int lines) {
        ask("worst", 0);
        ask("worst", 400);
        for (int b = 1; b < Math.min(lines, 4); b++) {
            for (int a = 0; a < b; a++) {
                ask("cross", a, b, 400, 1);
                ask("cross", a, b, 400, 2);
                ask("cross", a, b, 0, 3);
            }
        }
    }

    private void chart() {
        for (int day : DAYS) {
            for (int square : SQUARES) {
                ask("bottom", day, square);
            }
            ask("deepest", day, 0, 255);
            ask("narrow", day, 255, 0);
        }
        for (int k = 0; k < 6; k++) {
            ask("shown", 99, 4, 0, k);
            ask("way", 99, 0, 34, k);
        }
    }

    /** What a refused call left in rows that aren't in use yet would come to light here. */
    private void goOn() {
        int line = ask("line", 98, 1555);
        ask("boat", line, 2);
        for (int day : DAYS) {
            ask("tide", day, 2, 4);
        }
        ask("tide", 98, 1, 4);
        ask("tide", 98, 11, 5);
        int[] added = {ask("lead", 0, 7, 1, 2, 3), ask("echo", 0, 8, 1, 2, 0),
            ask("sweep", 0, 9, 1, 2, 3, 4, 5), ask("notice", 5, 98, 1, 2, 3)};
        for (int s : added) {
            for (int what = 0; what <= 10; what++) {
                ask("sounding", s, what);
            }
        }
        ask("gone", added[0], 99);
        ask("count", 3);
        for (int i = 0; i < 22; i++) {
            ask("undo");
            ask("count", 0);
            ask("count", 1);
        }
    }
}
