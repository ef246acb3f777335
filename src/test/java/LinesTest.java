/** Promises 1, 2, 4, 5 and 14: a new object, line, speed, shift, boat. */
public final class LinesTest {
    private static final Due DUE = new Due();

    public static void main(String[] args) {
        aNewObjectIsEmpty();
        linesAreNumberedAndLimited();
        wrongLinesDoNothing();
        speedHasItsEdges();
        shiftHasItsEdges();
        everyLineStartsWithoutAShift();
        boatTellsOfALine();
        DUE.end();
    }

    private static void aNewObjectIsEmpty() {
        SoundingSheet x = new SoundingSheet();
        for (int what = 0; what <= 3; what++) {
            DUE.is("count(" + what + ") of a new object", x.count(what), 0);
        }
        DUE.is("boat(0, 0) of a new object", x.boat(0, 0), SoundingSheet.NONE);
        DUE.is("sounding(0, 0) of a new object", x.sounding(0, 0), SoundingSheet.NONE);
        DUE.is("depth(0) of a new object", x.depth(0), SoundingSheet.UNKNOWN);
        for (int day = 0; day < 100; day++) {
            DUE.is("water of a new object", x.water(day, 0, 1), SoundingSheet.UNKNOWN);
            DUE.is("bottom of a new object", x.bottom(day, day), SoundingSheet.UNKNOWN);
        }
        DUE.is("worst of a new object", x.worst(400), SoundingSheet.NONE);
        DUE.no("undo() of a new object", x.undo());
        DUE.no("load() of a new object", x.load());
    }

    private static void linesAreNumberedAndLimited() {
        SoundingSheet x = new SoundingSheet();
        for (int i = 0; i < 20; i++) {
            DUE.is("line " + i, x.line(i % 2 == 0 ? 0 : 99, i % 3 == 0 ? 1400 : 1600), i);
        }
        DUE.is("the 21st line", x.line(5, 1500), SoundingSheet.NONE);
        DUE.is("count(0)", x.count(0), 20);
        DUE.is("count(3)", x.count(3), 20);
    }

    private static void wrongLinesDoNothing() {
        SoundingSheet x = new SoundingSheet();
        int[][] wrong = {{-1, 1500}, {100, 1500}, {0, 1399}, {0, 1601}, {0, 0}, {0, -1500},
            {Integer.MIN_VALUE, 1500}, {Integer.MAX_VALUE, 1500}, {0, Integer.MAX_VALUE}};
        for (int[] pair : wrong) {
            DUE.is("line(" + pair[0] + ", " + pair[1] + ")", x.line(pair[0], pair[1]), SoundingSheet.NONE);
        }
        DUE.is("count(0)", x.count(0), 0);
        DUE.is("count(3)", x.count(3), 0);
    }

    private static void speedHasItsEdges() {
        SoundingSheet x = new SoundingSheet();
        DUE.no("speed of no line", x.speed(0, 1500));
        x.line(3, 1500);
        DUE.no("speed(0, 1399)", x.speed(0, 1399));
        DUE.no("speed(0, 1601)", x.speed(0, 1601));
        DUE.no("speed(1, 1500)", x.speed(1, 1500));
        DUE.no("speed(-1, 1500)", x.speed(-1, 1500));
        DUE.is("SPEED after refusals", x.boat(0, 1), 1500);
        DUE.is("acts after refusals", x.count(3), 1);
        DUE.yes("speed(0, 1400)", x.speed(0, 1400));
        DUE.is("SPEED", x.boat(0, 1), 1400);
        DUE.yes("speed(0, 1600)", x.speed(0, 1600));
        DUE.is("SPEED", x.boat(0, 1), 1600);
        DUE.yes("the same SPEED once more", x.speed(0, 1600));
        DUE.is("acts", x.count(3), 4);
    }

    private static void shiftHasItsEdges() {
        SoundingSheet x = new SoundingSheet();
        DUE.no("shift of no line", x.shift(0, 0));
        x.line(3, 1500);
        DUE.is("SHIFT at first", x.boat(0, 2), 0);
        DUE.no("shift(0, -51)", x.shift(0, -51));
        DUE.no("shift(0, 51)", x.shift(0, 51));
        DUE.no("shift(1, 0)", x.shift(1, 0));
        DUE.no("shift(-1, 0)", x.shift(-1, 0));
        DUE.is("acts after refusals", x.count(3), 1);
        DUE.yes("shift(0, -50)", x.shift(0, -50));
        DUE.is("SHIFT", x.boat(0, 2), -50);
        DUE.yes("shift(0, 50)", x.shift(0, 50));
        DUE.is("SHIFT", x.boat(0, 2), 50);
        DUE.yes("the same SHIFT once more", x.shift(0, 50));
        DUE.is("acts", x.count(3), 4);
    }

    private static void everyLineStartsWithoutAShift() {
        SoundingSheet x = new SoundingSheet();
        x.image();
        x.line(3, 1500);
        x.shift(0, 9);
        x.load();
        x.line(4, 1400);
        DUE.is("SHIFT at first after a load()", x.boat(0, 2), 0);
        x.shift(0, -9);
        x.undo();
        DUE.is("SHIFT undone", x.boat(0, 2), 0);
        x.shift(0, 9);
        x.line(5, 1600);
        DUE.is("the next line's", x.boat(1, 2), 0);
        DUE.is("the first line's", x.boat(0, 2), 9);
        x.undo();
        x.undo();
        x.undo();
        DUE.is("no line", x.boat(0, 2), SoundingSheet.NONE);
        x.line(6, 1500);
        DUE.is("SHIFT at first once more", x.boat(0, 2), 0);
    }

    private static void boatTellsOfALine() {
        SoundingSheet x = new SoundingSheet();
        x.line(7, 1450);
        x.line(8, 1550);
        x.lead(1, 0, 0, 0, 1);
        x.echo(1, 0, 0, 0, 0);
        x.sweep(1, 0, 0, 0, 2, 2, 1);
        x.notice(5, 8, 0, 0, 1);
        x.gone(0, 0);
        int[][] want = {{7, 1450, 0, 0, -1, -1}, {8, 1550, 0, 3, -1, -1}, {-1, -1, -1, -1, -1, -1}};
        int[] whats = {0, 1, 2, 3, 4, -1};
        for (int line = 0; line < want.length; line++) {
            for (int i = 0; i < whats.length; i++) {
                DUE.is("boat(" + line + ", " + whats[i] + ")", x.boat(line, whats[i]), want[line][i]);
            }
        }
        DUE.is("boat(-1, 0)", x.boat(-1, 0), SoundingSheet.NONE);
        DUE.is("boat(MIN, 0)", x.boat(Integer.MIN_VALUE, 0), SoundingSheet.NONE);
    }
}
