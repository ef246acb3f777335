import java.util.List;
import java.util.function.Supplier;

/**
 * One argument of one call that the document bounds: what is due at the least and at the greatest
 * value, and that every value beyond them is refused and changes nothing.
 */
final class Edge {
    /** Stands among the arguments for the bounded one. */
    static final int IT = Integer.MIN_VALUE + 77;

    private final Due due;
    private final Supplier<SoundingSheet> office;
    private final List<String> before;
    private final String sentence;
    private final String call;
    private final int[] args;
    private int least;
    private int dueAtLeast;
    private int most;
    private int dueAtMost;
    private int dueSeen;
    private String seen = "";
    private int[] seenArgs;

    Edge(Due due, Supplier<SoundingSheet> office, List<String> before, String sentence, String call, int... args) {
        this.due = due;
        this.office = office;
        this.before = before;
        this.sentence = sentence;
        this.call = call;
        this.args = args;
    }

    Edge from(int value, int answer) {
        least = value;
        dueAtLeast = answer;
        return this;
    }

    Edge to(int value, int answer) {
        most = value;
        dueAtMost = answer;
        return this;
    }

    /** A question that tells, once the call is made, what it did. */
    Edge seen(int answer, String question, int... questionArgs) {
        dueSeen = answer;
        seen = question;
        seenArgs = questionArgs;
        return this;
    }

    /** Ends a row: what is right lies between the least and the greatest value, and nowhere else. */
    void refused(int answer) {
        accepted();
        refusedAt(answer, least - 1, most + 1, Integer.MIN_VALUE, Integer.MAX_VALUE);
    }

    /** Ends a row of which only what is right is told. */
    void accepted() {
        accepts(least, dueAtLeast);
        accepts(most, dueAtMost);
    }

    /** Ends a row of which only what is wrong is told. */
    void refusedAt(int answer, int... values) {
        for (int value : values) {
            refuses(value, answer);
        }
    }

    private void accepts(int value, int answer) {
        SoundingSheet x = office.get();
        int acts = x.count(3);
        due.is(name(value), Calls.call(x, call, with(value, args)), answer);
        due.is(name(value) + ": acts", x.count(3), Calls.isAct(call) ? acts + 1 : acts);
        if (!seen.isEmpty()) {
            int want = dueSeen == IT ? value : dueSeen;
            due.is(name(value) + ", seen by " + seen, Calls.call(x, seen, with(value, seenArgs)), want);
        }
        Look.same(due, name(value) + (Calls.isAct(call) ? ", undone," : ""), before, () -> takenBack(value));
    }

    private SoundingSheet takenBack(int value) {
        SoundingSheet x = office.get();
        Calls.call(x, call, with(value, args));
        if (Calls.isAct(call)) {
            x.undo();
        }
        return x;
    }

    private void refuses(int value, int answer) {
        due.is(name(value), Calls.call(office.get(), call, with(value, args)), answer);
        Look.same(due, name(value), before, () -> Look.after(office, call, with(value, args)));
    }

    private String name(int value) {
        StringBuilder told = new StringBuilder(sentence).append(": ").append(call).append('(');
        int[] all = with(value, args);
        for (int i = 0; i < all.length; i++) {
            told.append(i == 0 ? "" : ", ").append(all[i]);
        }
        return told.append(')').toString();
    }

    private static int[] with(int value, int[] pattern) {
        int[] all = pattern.clone();
        for (int i = 0; i < all.length; i++) {
            all[i] = all[i] == IT ? value : all[i];
        }
        return all;
    }
}
