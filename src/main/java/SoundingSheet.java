import java.util.Arrays;

/**
 * An office that makes sheets of depths from soundings, crossings, spans and notices. The words in
 * capitals are those of the document's terms.
 */
public final class SoundingSheet {
    public static final int NONE = -1;
    public static final int UNKNOWN = -30000;

    private static final int DAYS = 100;
    private static final int NEVER = 100;
    private static final int MINUTES = 1440;
    private static final int PLACES = 256;
    private static final int SQUARE_SIDE = 16;
    private static final int ROW = 16;
    private static final int SQUARES = 256;
    private static final int MOST_LINES = 20;
    private static final int MOST_TIDES = 12;
    private static final int MOST_SOUNDINGS = 200;
    private static final int MOST_UNDONE = 20;
    private static final int MOST_UNITS = 400;
    private static final int MOST_TO_A_SQUARE = 6;

    private static final int LEAD = 0;
    private static final int ECHO = 1;
    private static final int SWEPT = 2;
    private static final int WRECK = 3;
    private static final int ROCK = 4;
    private static final int REPORTED = 5;

    private static final int ALWAYS = 0;
    private static final int SHOALEST = 1;
    private static final int BY_DISTANCE = 2;
    private static final int IS_SWEPT = 3;
    private static final int NOT_THERE = 4;
    private static final int WAITS = 5;
    private static final int OTHERS_AHEAD = 6;

    private static final int ACT_LINE = 0;
    private static final int ACT_NEW_TIDE = 1;
    private static final int ACT_OTHER_TIDE = 2;
    private static final int ACT_SPEED = 3;
    private static final int ACT_SHIFT = 4;
    private static final int ACT_SOUNDING = 5;
    private static final int ACT_GONE = 6;

    private final Survey survey;
    private final Survey kept;
    private final Acts acts;
    private final Crossings crossings;
    private final Sheet sheet;
    private final Chart chart;
    private final Channel channel;
    private boolean hasImage;

    public SoundingSheet() {
        survey = new Survey();
        kept = new Survey();
        acts = new Acts();
        crossings = new Crossings(survey);
        sheet = new Sheet(survey);
        chart = new Chart(survey);
        channel = new Channel(chart);
        hasImage = false;
    }

    public int line(int day, int speed) {
        if (!isDay(day) || !isSpeed(speed) || survey.lines.size >= MOST_LINES) {
            return NONE;
        }
        int line = survey.lines.add(day, speed);
        acts.add(ACT_LINE, line, 0);
        return line;
    }

    public int tide(int day, int minute, int height) {
        if (!isDay(day) || !isMinute(minute) || !within(height, -100, 200)) {
            return NONE;
        }
        Tides tides = survey.tides;
        int row = tides.rowOf(day, minute);
        if (row != NONE) {
            acts.add(ACT_OTHER_TIDE, row, tides.heights[row]);
            tides.heights[row] = height;
            return tides.told[day];
        }
        if (tides.told[day] >= MOST_TIDES) {
            return NONE;
        }
        tides.add(day, minute, height);
        acts.add(ACT_NEW_TIDE, day, 0);
        return tides.told[day];
    }

    public boolean speed(int line, int speed) {
        if (!survey.lines.has(line) || !isSpeed(speed)) {
            return false;
        }
        acts.add(ACT_SPEED, line, survey.lines.speeds[line]);
        survey.lines.speeds[line] = speed;
        return true;
    }

    public boolean shift(int line, int shift) {
        if (!survey.lines.has(line) || !within(shift, -50, 50)) {
            return false;
        }
        acts.add(ACT_SHIFT, line, survey.lines.shifts[line]);
        survey.lines.shifts[line] = shift;
        return true;
    }

    public int lead(int line, int minute, int x, int y, int raw) {
        if (!within(raw, 0, 9999)) {
            return NONE;
        }
        return addOfLine(LEAD, line, minute, x, y, raw);
    }

    public int echo(int line, int minute, int x, int y, int bits) {
        int raw = cutFloat(bits);
        if (!within(raw, 0, 19999)) {
            return NONE;
        }
        return addOfLine(ECHO, line, minute, x, y, raw);
    }

    public int sweep(int line, int minute, int x, int y, int w, int h, int raw) {
        if (!isPlace(x, y) || !within(w, 1, PLACES - x) || !within(h, 1, PLACES - y)) {
            return NONE;
        }
        if (!within(raw, 0, 9999)) {
            return NONE;
        }
        int s = addOfLine(SWEPT, line, minute, x, y, raw);
        if (s != NONE) {
            survey.soundings.setSpan(s, w, h);
        }
        return s;
    }

    public int notice(int kind, int day, int x, int y, int raw) {
        if (!within(kind, WRECK, REPORTED) || !isDay(day) || !isPlace(x, y)) {
            return NONE;
        }
        boolean rightRaw = kind == ROCK ? within(raw, -200, -1) : within(raw, 0, 9999);
        if (!rightRaw) {
            return NONE;
        }
        int s = addSounding(kind, x, y, raw);
        if (s != NONE) {
            survey.soundings.setOrigin(s, day, NONE, NONE);
        }
        return s;
    }

    public boolean gone(int sounding, int day) {
        Soundings all = survey.soundings;
        if (!all.has(sounding) || !within(day, 0, NEVER) || all.goneFrom[sounding] == day) {
            return false;
        }
        acts.add(ACT_GONE, sounding, all.goneFrom[sounding]);
        all.goneFrom[sounding] = day;
        return true;
    }

    public int count(int what) {
        switch (what) {
            case 0:
                return survey.lines.size;
            case 1:
                return survey.soundings.size;
            case 2:
                return survey.waiting();
            case 3:
                return acts.size;
            default:
                return NONE;
        }
    }

    public int sounding(int s, int what) {
        Soundings all = survey.soundings;
        if (!all.has(s)) {
            return NONE;
        }
        switch (what) {
            case 0:
                return all.kinds[s];
            case 1:
                return all.xs[s];
            case 2:
                return all.ys[s];
            case 3:
                return all.raws[s];
            case 4:
                return all.days[s];
            case 5:
                return all.lines[s];
            case 6:
                return all.minutes[s];
            case 7:
                return all.goneFrom[s];
            case 8:
                return all.widths[s];
            case 9:
                return all.heights[s];
            case 10:
                return survey.corrected(s) == UNKNOWN ? 1 : 0;
            default:
                return NONE;
        }
    }

    public int depth(int s) {
        return survey.soundings.has(s) ? survey.corrected(s) : UNKNOWN;
    }

    public int boat(int line, int what) {
        Lines lines = survey.lines;
        if (!lines.has(line)) {
            return NONE;
        }
        switch (what) {
            case 0:
                return lines.days[line];
            case 1:
                return lines.speeds[line];
            case 2:
                return lines.shifts[line];
            case 3:
                return survey.soundings.ofLine(line);
            default:
                return NONE;
        }
    }

    public int water(int day, int minute, int times) {
        if (!isDay(day) || !isMinute(minute) || !within(times, 1, MINUTES - 1)) {
            return UNKNOWN;
        }
        Tides tides = survey.tides;
        if (!tides.seek(day, minute)) {
            return UNKNOWN;
        }
        return (int) floorOf(tides.over * times, tides.under);
    }

    public int cross(int a, int b, int u, int what) {
        int none = what == 3 ? UNKNOWN : NONE;
        if (!survey.lines.has(a) || !survey.lines.has(b) || a >= b || !isReach(u)) {
            return none;
        }
        crossings.gather();
        if (!crossings.find(a, b, u)) {
            return none;
        }
        switch (what) {
            case 0:
                return crossings.apart;
            case 1:
                return crossings.ofA;
            case 2:
                return crossings.ofB;
            case 3:
                return crossings.miss();
            default:
                return NONE;
        }
    }

    public int worst(int u) {
        if (!isReach(u)) {
            return NONE;
        }
        crossings.gather();
        crossings.addMisses(u);
        return crossings.lineThatMissesMost();
    }

    public int shown(int day, int n, int square, int k) {
        if (!isDay(day) || !isDensity(n) || !isSquare(square)) {
            return NONE;
        }
        sheet.draw(day, n, square);
        return k >= 0 && k < sheet.shownSize ? sheet.shownOnes[k] : NONE;
    }

    public int why(int day, int n, int s) {
        if (!isDay(day) || !isDensity(n) || !survey.soundings.has(s)) {
            return NONE;
        }
        if (survey.soundings.kinds[s] == SWEPT) {
            return IS_SWEPT;
        }
        if (!survey.soundings.isThere(s, day)) {
            return NOT_THERE;
        }
        if (survey.corrected(s) == UNKNOWN) {
            return WAITS;
        }
        sheet.draw(day, n, survey.soundings.squareOf(s));
        return sheet.reasons[s];
    }

    public int bottom(int day, int square) {
        if (!isDay(day) || !isSquare(square)) {
            return UNKNOWN;
        }
        chart.draw(day);
        return chart.depths[square];
    }

    public int deepest(int day, int a, int b) {
        return findChannel(day, a, b) ? channel.floor : UNKNOWN;
    }

    public int way(int day, int a, int b, int i) {
        if (!findChannel(day, a, b)) {
            return NONE;
        }
        return i >= 0 && i < channel.length ? channel.squares[i] : NONE;
    }

    public int narrow(int day, int a, int b) {
        return findChannel(day, a, b) ? channel.firstAtFloor() : NONE;
    }

    public boolean draught(int day, int a, int b, int d) {
        if (!isDay(day) || !isSquare(a) || !isSquare(b)) {
            return false;
        }
        chart.draw(day);
        return channel.joins(a, b, d);
    }

    public int check(int day, int square, int d) {
        if (!isDay(day) || !isSquare(square)) {
            return -2;
        }
        chart.draw(day);
        int known = chart.depths[square];
        if (known == UNKNOWN) {
            return 2;
        }
        if (known == d) {
            return NONE;
        }
        return known < d ? 0 : 1;
    }

    public boolean undo() {
        if (!acts.takeLatest()) {
            return false;
        }
        switch (acts.takenAct) {
            case ACT_LINE:
                survey.lines.removeLast();
                break;
            case ACT_NEW_TIDE:
                survey.tides.removeLast(acts.takenWhere);
                break;
            case ACT_OTHER_TIDE:
                survey.tides.heights[acts.takenWhere] = acts.takenOld;
                break;
            case ACT_SPEED:
                survey.lines.speeds[acts.takenWhere] = acts.takenOld;
                break;
            case ACT_SHIFT:
                survey.lines.shifts[acts.takenWhere] = acts.takenOld;
                break;
            case ACT_SOUNDING:
                survey.soundings.removeLast();
                break;
            default:
                survey.soundings.goneFrom[acts.takenWhere] = acts.takenOld;
                break;
        }
        return true;
    }

    public void image() {
        kept.copyFrom(survey);
        hasImage = true;
    }

    public boolean load() {
        if (!hasImage) {
            return false;
        }
        survey.copyFrom(kept);
        acts.forgetAll();
        return true;
    }

    private int addOfLine(int kind, int line, int minute, int x, int y, int raw) {
        if (!survey.lines.has(line) || !isMinute(minute) || !isPlace(x, y)) {
            return NONE;
        }
        int s = addSounding(kind, x, y, raw);
        if (s != NONE) {
            survey.soundings.setOrigin(s, survey.lines.days[line], line, minute);
        }
        return s;
    }

    private int addSounding(int kind, int x, int y, int raw) {
        if (survey.soundings.size >= MOST_SOUNDINGS) {
            return NONE;
        }
        int s = survey.soundings.add(kind, x, y, raw);
        acts.add(ACT_SOUNDING, s, 0);
        return s;
    }

    private boolean findChannel(int day, int a, int b) {
        if (!isDay(day) || !isSquare(a) || !isSquare(b)) {
            return false;
        }
        chart.draw(day);
        return channel.find(a, b);
    }

    private static boolean within(int value, int least, int most) {
        return value >= least && value <= most;
    }

    private static boolean isDay(int day) {
        return within(day, 0, DAYS - 1);
    }

    private static boolean isMinute(int minute) {
        return within(minute, 0, MINUTES - 1);
    }

    private static boolean isSpeed(int speed) {
        return within(speed, 1400, 1600);
    }

    private static boolean isPlace(int x, int y) {
        return within(x, 0, PLACES - 1) && within(y, 0, PLACES - 1);
    }

    private static boolean isSquare(int square) {
        return within(square, 0, SQUARES - 1);
    }

    private static boolean isDensity(int n) {
        return within(n, 1, MOST_TO_A_SQUARE);
    }

    private static boolean isReach(int u) {
        return within(u, 0, MOST_UNITS);
    }

    private static long floorOf(long over, long under) {
        return under > 0 ? Math.floorDiv(over, under) : 0;
    }

    /**
     * A float's bits cut towards 0, taken apart by hand as the library's own way isn't open here;
     * NONE for all that is no number or too great for any RAW.
     */
    private static int cutFloat(int bits) {
        int power = ((bits >>> 23) & 255) - 127;
        if (power < 0) {
            return 0;
        }
        if (power > 14) {
            return NONE;
        }
        int size = ((bits & 0x7fffff) | 0x800000) >> (23 - power);
        return bits < 0 ? -size : size;
    }

    /** The LINES, each a number into the rows. */
    private static final class Lines {
        final int[] days = new int[MOST_LINES];
        final int[] speeds = new int[MOST_LINES];
        final int[] shifts = new int[MOST_LINES];
        int size = 0;

        boolean has(int line) {
            return line >= 0 && line < size;
        }

        int add(int day, int speed) {
            if (size >= MOST_LINES) {
                return NONE;
            }
            days[size] = day;
            speeds[size] = speed;
            shifts[size] = 0;
            size++;
            return size - 1;
        }

        void removeLast() {
            size = Math.max(0, size - 1);
        }

        void copyFrom(Lines other) {
            size = other.size;
            System.arraycopy(other.days, 0, days, 0, MOST_LINES);
            System.arraycopy(other.speeds, 0, speeds, 0, MOST_LINES);
            System.arraycopy(other.shifts, 0, shifts, 0, MOST_LINES);
        }
    }

    /** The told heights: a day's stand in the twelve rows from 12 times the day on, as told. */
    private static final class Tides {
        final int[] told = new int[DAYS];
        final int[] minutes = new int[DAYS * MOST_TIDES];
        final int[] heights = new int[DAYS * MOST_TIDES];
        /** The TIDE that was found last is over / under: a quotient would lose its fraction. */
        long over = 0;
        long under = 1;

        int rowOf(int day, int minute) {
            int first = day * MOST_TIDES;
            int end = first + told[day];
            for (int row = first; row < end; row++) {
                if (minutes[row] == minute) {
                    return row;
                }
            }
            return NONE;
        }

        void add(int day, int minute, int height) {
            if (told[day] >= MOST_TIDES) {
                return;
            }
            int row = day * MOST_TIDES + told[day];
            minutes[row] = minute;
            heights[row] = height;
            told[day]++;
        }

        void removeLast(int day) {
            told[day] = Math.max(0, told[day] - 1);
        }

        /** Whether there is a TIDE at a minute; if so, over and under tell it. */
        boolean seek(int day, int minute) {
            int ahead = NONE;
            int behind = NONE;
            int first = day * MOST_TIDES;
            int end = first + told[day];
            for (int row = first; row < end; row++) {
                int at = minutes[row];
                if (at <= minute && (ahead == NONE || at > minutes[ahead])) {
                    ahead = row;
                }
                if (at >= minute && (behind == NONE || at < minutes[behind])) {
                    behind = row;
                }
            }
            if (ahead == NONE || behind == NONE) {
                return false;
            }
            under = Math.max(1, minutes[behind] - minutes[ahead]);
            long rise = heights[behind] - heights[ahead];
            over = heights[ahead] * under + rise * (minute - minutes[ahead]);
            return true;
        }

        void copyFrom(Tides other) {
            System.arraycopy(other.told, 0, told, 0, DAYS);
            System.arraycopy(other.minutes, 0, minutes, 0, DAYS * MOST_TIDES);
            System.arraycopy(other.heights, 0, heights, 0, DAYS * MOST_TIDES);
        }
    }

    /** The SOUNDINGS, each a number into the rows. */
    private static final class Soundings {
        final int[] kinds = new int[MOST_SOUNDINGS];
        final int[] xs = new int[MOST_SOUNDINGS];
        final int[] ys = new int[MOST_SOUNDINGS];
        final int[] raws = new int[MOST_SOUNDINGS];
        final int[] days = new int[MOST_SOUNDINGS];
        final int[] lines = new int[MOST_SOUNDINGS];
        final int[] minutes = new int[MOST_SOUNDINGS];
        final int[] goneFrom = new int[MOST_SOUNDINGS];
        final int[] widths = new int[MOST_SOUNDINGS];
        final int[] heights = new int[MOST_SOUNDINGS];
        int size = 0;

        boolean has(int s) {
            return s >= 0 && s < size;
        }

        int add(int kind, int x, int y, int raw) {
            if (size >= MOST_SOUNDINGS) {
                return NONE;
            }
            kinds[size] = kind;
            xs[size] = x;
            ys[size] = y;
            raws[size] = raw;
            goneFrom[size] = NEVER;
            setOrigin(size, 0, NONE, NONE);
            setSpan(size, 1, 1);
            size++;
            return size - 1;
        }

        void setOrigin(int s, int day, int line, int minute) {
            days[s] = day;
            lines[s] = line;
            minutes[s] = minute;
        }

        void setSpan(int s, int w, int h) {
            widths[s] = w;
            heights[s] = h;
        }

        void removeLast() {
            size = Math.max(0, size - 1);
        }

        int ofLine(int line) {
            int sum = 0;
            for (int s = 0; s < size; s++) {
                if (lines[s] == line) {
                    sum++;
                }
            }
            return sum;
        }

        boolean isThere(int s, int day) {
            return days[s] <= day && day < goneFrom[s];
        }

        int squareOf(int s) {
            return ROW * (ys[s] / SQUARE_SIDE) + xs[s] / SQUARE_SIDE;
        }

        int apart(int s, int t) {
            int dx = xs[s] - xs[t];
            int dy = ys[s] - ys[t];
            return dx * dx + dy * dy;
        }

        boolean spanHas(int swept, int s) {
            int dx = xs[s] - xs[swept];
            int dy = ys[s] - ys[swept];
            return dx >= 0 && dx < widths[swept] && dy >= 0 && dy < heights[swept];
        }

        void copyFrom(Soundings other) {
            size = other.size;
            System.arraycopy(other.kinds, 0, kinds, 0, MOST_SOUNDINGS);
            System.arraycopy(other.xs, 0, xs, 0, MOST_SOUNDINGS);
            System.arraycopy(other.ys, 0, ys, 0, MOST_SOUNDINGS);
            System.arraycopy(other.raws, 0, raws, 0, MOST_SOUNDINGS);
            System.arraycopy(other.days, 0, days, 0, MOST_SOUNDINGS);
            System.arraycopy(other.lines, 0, lines, 0, MOST_SOUNDINGS);
            System.arraycopy(other.minutes, 0, minutes, 0, MOST_SOUNDINGS);
            System.arraycopy(other.goneFrom, 0, goneFrom, 0, MOST_SOUNDINGS);
            System.arraycopy(other.widths, 0, widths, 0, MOST_SOUNDINGS);
            System.arraycopy(other.heights, 0, heights, 0, MOST_SOUNDINGS);
        }
    }

    /** All that an image keeps, and the depths that follow from it. */
    private static final class Survey {
        /** ECHO's RAW counts in these parts, so all depths are reckoned in them. */
        private static final int PARTS = 2000;

        final Lines lines = new Lines();
        final Tides tides = new Tides();
        final Soundings soundings = new Soundings();
        /** CORRECTED depths as they were when measured last; UNKNOWN of those that WAIT. */
        final int[] depths = new int[MOST_SOUNDINGS];

        /** UNKNOWN stands for one that WAITS, as no depth reaches so far up. */
        int corrected(int s) {
            int line = soundings.lines[s];
            if (!lines.has(line)) {
                return soundings.raws[s];
            }
            if (!tides.seek(soundings.days[s], soundings.minutes[s])) {
                return UNKNOWN;
            }
            long rate = soundings.kinds[s] == ECHO ? lines.speeds[line] : PARTS;
            long parts = soundings.raws[s] * rate + (long) lines.shifts[line] * PARTS;
            return (int) floorOf(parts * tides.under - tides.over * PARTS, tides.under * PARTS);
        }

        int waiting() {
            int sum = 0;
            for (int s = 0; s < soundings.size; s++) {
                if (corrected(s) == UNKNOWN) {
                    sum++;
                }
            }
            return sum;
        }

        void measure() {
            for (int s = 0; s < soundings.size; s++) {
                depths[s] = corrected(s);
            }
        }

        /** Whether a measured sounding is THERE on a day and doesn't WAIT. */
        boolean counts(int s, int day) {
            return depths[s] != UNKNOWN && soundings.isThere(s, day);
        }

        void copyFrom(Survey other) {
            lines.copyFrom(other.lines);
            tides.copyFrom(other.tides);
            soundings.copyFrom(other.soundings);
        }
    }

    /** The latest acts, in a ring: each with where it worked and what stood there. */
    private static final class Acts {
        private final int[] kinds = new int[MOST_UNDONE];
        private final int[] wheres = new int[MOST_UNDONE];
        private final int[] olds = new int[MOST_UNDONE];
        private int next = 0;
        int size = 0;
        int takenAct = 0;
        int takenWhere = 0;
        int takenOld = 0;

        void add(int act, int where, int old) {
            kinds[next] = act;
            wheres[next] = where;
            olds[next] = old;
            next = (next + 1) % MOST_UNDONE;
            size = Math.min(size + 1, MOST_UNDONE);
        }

        boolean takeLatest() {
            if (size == 0) {
                return false;
            }
            next = (next + MOST_UNDONE - 1) % MOST_UNDONE;
            size--;
            takenAct = kinds[next];
            takenWhere = wheres[next];
            takenOld = olds[next];
            return true;
        }

        void forgetAll() {
            size = 0;
        }
    }

    /** The CROSSINGS of lines. */
    private static final class Crossings {
        private final Survey survey;
        /** The soundings that can cross, line after line, so that no pair is looked at in vain. */
        private final int[] order = new int[MOST_SOUNDINGS];
        private final int[] starts = new int[MOST_LINES + 1];
        /** What each line misses by in all; NONE of one without a CROSSING. */
        private final int[] missed = new int[MOST_LINES];
        int ofA = NONE;
        int ofB = NONE;
        int apart = 0;

        Crossings(Survey survey) {
            this.survey = survey;
        }

        void gather() {
            survey.measure();
            int size = 0;
            for (int line = 0; line < MOST_LINES; line++) {
                starts[line] = size;
                for (int s = 0; s < survey.soundings.size; s++) {
                    if (survey.soundings.lines[s] == line && canCross(s)) {
                        order[size] = s;
                        size++;
                    }
                }
            }
            starts[MOST_LINES] = size;
        }

        private boolean canCross(int s) {
            return survey.soundings.kinds[s] != SWEPT && survey.depths[s] != UNKNOWN;
        }

        /** Whether gathered lines have a CROSSING; if so, ofA, ofB and apart tell it. */
        boolean find(int a, int b, int u) {
            ofA = NONE;
            ofB = NONE;
            apart = u * u + 1;
            for (int i = starts[a]; i < starts[a + 1]; i++) {
                for (int j = starts[b]; j < starts[b + 1]; j++) {
                    int distance = survey.soundings.apart(order[i], order[j]);
                    if (distance < apart) {
                        apart = distance;
                        ofA = order[i];
                        ofB = order[j];
                    }
                }
            }
            return ofA != NONE;
        }

        int miss() {
            return ofA == NONE || ofB == NONE ? 0 : survey.depths[ofA] - survey.depths[ofB];
        }

        void addMisses(int u) {
            Arrays.fill(missed, NONE);
            for (int a = 0; a < survey.lines.size; a++) {
                for (int b = a + 1; b < survey.lines.size; b++) {
                    if (find(a, b, u)) {
                        addMiss(a);
                        addMiss(b);
                    }
                }
            }
        }

        private void addMiss(int line) {
            missed[line] = Math.max(0, missed[line]) + Math.abs(miss());
        }

        int lineThatMissesMost() {
            int most = NONE;
            int worstLine = NONE;
            for (int line = 0; line < survey.lines.size; line++) {
                if (missed[line] > most) {
                    most = missed[line];
                    worstLine = line;
                }
            }
            return worstLine;
        }
    }

    /** One square of a SHEET. */
    private static final class Sheet {
        /** More than any two places' squared distance. */
        private static final int BEYOND_ALL = 1000000;

        private final Survey survey;
        private final int[] found = new int[MOST_SOUNDINGS];
        private int foundSize = 0;
        final int[] shownOnes = new int[MOST_SOUNDINGS];
        int shownSize = 0;
        /** Of each FOUND one why it is or isn't SHOWN. */
        final int[] reasons = new int[MOST_SOUNDINGS];

        Sheet(Survey survey) {
            this.survey = survey;
        }

        void draw(int day, int n, int square) {
            survey.measure();
            findAll(day, square);
            shownSize = 0;
            showAlways(day);
            showShoalest();
            for (int i = 0; i < n; i++) {
                if (shownSize < n) {
                    showFarthest();
                }
            }
        }

        private void findAll(int day, int square) {
            Soundings all = survey.soundings;
            foundSize = 0;
            for (int s = 0; s < all.size; s++) {
                boolean isFound = all.kinds[s] != SWEPT && all.squareOf(s) == square;
                if (isFound && survey.counts(s, day)) {
                    found[foundSize] = s;
                    foundSize++;
                    reasons[s] = OTHERS_AHEAD;
                }
            }
        }

        private void showAlways(int day) {
            for (int i = 0; i < foundSize; i++) {
                int s = found[i];
                int kind = survey.soundings.kinds[s];
                if (kind == WRECK || kind == ROCK || standsInSwept(s, day)) {
                    add(s, ALWAYS);
                }
            }
        }

        /** A sounding less deep than what was swept free before it tells of something new. */
        private boolean standsInSwept(int s, int day) {
            Soundings all = survey.soundings;
            for (int t = 0; t < all.size; t++) {
                boolean isEarlierSwept = all.kinds[t] == SWEPT && all.days[t] < all.days[s];
                if (isEarlierSwept && survey.counts(t, day) && all.spanHas(t, s)
                        && survey.depths[s] < survey.depths[t]) {
                    return true;
                }
            }
            return false;
        }

        private void showShoalest() {
            int shoalest = NONE;
            for (int i = 0; i < foundSize; i++) {
                int s = found[i];
                if (shoalest == NONE || survey.depths[s] < survey.depths[shoalest]) {
                    shoalest = s;
                }
            }
            if (shoalest != NONE && reasons[shoalest] == OTHERS_AHEAD) {
                add(shoalest, SHOALEST);
            }
        }

        private void showFarthest() {
            int farthest = NONE;
            int most = NONE;
            for (int i = 0; i < foundSize; i++) {
                int s = found[i];
                if (reasons[s] == OTHERS_AHEAD) {
                    int distance = distanceToShown(s);
                    if (distance > most) {
                        most = distance;
                        farthest = s;
                    }
                }
            }
            if (farthest != NONE) {
                add(farthest, BY_DISTANCE);
            }
        }

        private int distanceToShown(int s) {
            int least = BEYOND_ALL;
            for (int i = 0; i < shownSize; i++) {
                least = Math.min(least, survey.soundings.apart(s, shownOnes[i]));
            }
            return least;
        }

        private void add(int s, int reason) {
            if (shownSize >= MOST_SOUNDINGS) {
                return;
            }
            shownOnes[shownSize] = s;
            shownSize++;
            reasons[s] = reason;
        }
    }

    /** The DEPTHS of all squares on one day. */
    private static final class Chart {
        private final Survey survey;
        private final int[] swept = new int[SQUARES];
        final int[] depths = new int[SQUARES];

        Chart(Survey survey) {
            this.survey = survey;
        }

        void draw(int day) {
            survey.measure();
            Arrays.fill(depths, UNKNOWN);
            Arrays.fill(swept, UNKNOWN);
            for (int s = 0; s < survey.soundings.size; s++) {
                if (survey.counts(s, day)) {
                    enter(s);
                }
            }
            for (int square = 0; square < SQUARES; square++) {
                if (depths[square] == UNKNOWN) {
                    depths[square] = swept[square];
                }
            }
        }

        /** The least DEPTH of all squares of which one is known. */
        int leastDepth() {
            int least = UNKNOWN;
            for (int square = 0; square < SQUARES; square++) {
                int known = depths[square];
                if (known != UNKNOWN && (least == UNKNOWN || known < least)) {
                    least = known;
                }
            }
            return least;
        }

        private void enter(int s) {
            if (survey.soundings.kinds[s] == SWEPT) {
                enterSpan(s);
                return;
            }
            int square = survey.soundings.squareOf(s);
            if (depths[square] == UNKNOWN || survey.depths[s] < depths[square]) {
                depths[square] = survey.depths[s];
            }
        }

        private void enterSpan(int s) {
            Soundings all = survey.soundings;
            int left = (all.xs[s] + SQUARE_SIDE - 1) / SQUARE_SIDE;
            int right = (all.xs[s] + all.widths[s]) / SQUARE_SIDE;
            int top = (all.ys[s] + SQUARE_SIDE - 1) / SQUARE_SIDE;
            int end = (all.ys[s] + all.heights[s]) / SQUARE_SIDE;
            for (int row = top; row < end; row++) {
                for (int column = left; column < right; column++) {
                    int square = ROW * row + column;
                    swept[square] = Math.max(swept[square], survey.depths[s]);
                }
            }
        }
    }

    /** The CHANNEL from square to square of a drawn chart. */
    private static final class Channel {
        private static final int SIDES = 4;
        /** More halvings than an int's span can need. */
        private static final int MOST_HALVINGS = 40;

        private final Chart chart;
        /** How many squares each one is away from the goal; NONE of those not joined to it. */
        private final int[] steps = new int[SQUARES];
        private final int[] queue = new int[SQUARES];
        private int queued = 0;
        final int[] squares = new int[SQUARES];
        int length = 0;
        int floor = UNKNOWN;

        Channel(Chart chart) {
            this.chart = chart;
        }

        boolean find(int a, int b) {
            if (!joins(a, b, UNKNOWN)) {
                return false;
            }
            floor = greatestFloor(a, b);
            flood(b, floor);
            walk(a);
            return true;
        }

        boolean joins(int a, int b, int least) {
            flood(b, least);
            return steps[a] != NONE;
        }

        int firstAtFloor() {
            for (int i = 0; i < length; i++) {
                if (chart.depths[squares[i]] == floor) {
                    return squares[i];
                }
            }
            return NONE;
        }

        /** What is joined at one depth is joined at every lesser one, so halving finds it. */
        private int greatestFloor(int a, int b) {
            int low = chart.leastDepth();
            int high = Math.min(chart.depths[a], chart.depths[b]);
            for (int i = 0; i < MOST_HALVINGS && low < high; i++) {
                int middle = low + (high - low + 1) / 2;
                if (joins(a, b, middle)) {
                    low = middle;
                } else {
                    high = middle - 1;
                }
            }
            return low;
        }

        /** It starts at the goal, so that a walk from the other end can choose as it goes. */
        private void flood(int goal, int least) {
            Arrays.fill(steps, NONE);
            queued = 0;
            reach(goal, least, 0);
            for (int i = 0; i < SQUARES && i < queued; i++) {
                int square = queue[i];
                for (int side = 0; side < SIDES; side++) {
                    int next = beside(square, side);
                    if (next != NONE) {
                        reach(next, least, steps[square] + 1);
                    }
                }
            }
        }

        private void reach(int square, int least, int step) {
            int known = chart.depths[square];
            if (steps[square] != NONE || known == UNKNOWN || known < least || queued >= SQUARES) {
                return;
            }
            steps[square] = step;
            queue[queued] = square;
            queued++;
        }

        private void walk(int a) {
            length = 0;
            int square = a;
            for (int i = 0; i < SQUARES && steps[a] - i >= 0; i++) {
                squares[length] = square;
                length++;
                square = leastBeside(square, steps[a] - i - 1);
            }
        }

        /** The sides go by rising numbers: the first that fits is the least. */
        private int leastBeside(int square, int step) {
            for (int side = 0; side < SIDES; side++) {
                int next = beside(square, side);
                if (next != NONE && step >= 0 && steps[next] == step) {
                    return next;
                }
            }
            return square;
        }

        private static int beside(int square, int side) {
            int column = square % ROW;
            switch (side) {
                case 0:
                    return square >= ROW ? square - ROW : NONE;
                case 1:
                    return column > 0 ? square - 1 : NONE;
                case 2:
                    return column < ROW - 1 ? square + 1 : NONE;
                default:
                    return square + ROW < SQUARES ? square + ROW : NONE;
            }
        }
    }
}
