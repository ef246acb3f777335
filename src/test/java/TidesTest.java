/** Promises 3 and 15: tide, water. */
public final class TidesTest {
    private static final Due DUE = new Due();

    public static void main(String[] args) {
        heightsAreCountedByDay();
        wrongHeightsDoNothing();
        twelveAreTheMost();
        waterGoesByExactFractions();
        waterEndsWithTheDay();
        aHeightToldStandsAlone();
        theNearestOfTwelve();
        fractionsAreExact();
        wrongWaterIsUnknown();
        DUE.end();
    }

    private static void heightsAreCountedByDay() {
        SoundingSheet x = new SoundingSheet();
        DUE.is("tide(0, 0, -100)", x.tide(0, 0, -100), 1);
        DUE.is("tide(0, 1439, 200)", x.tide(0, 1439, 200), 2);
        DUE.is("tide(99, 0, 0)", x.tide(99, 0, 0), 1);
        DUE.is("tide(0, 0, 5) in place of one", x.tide(0, 0, 5), 2);
        DUE.is("the height in place", x.water(0, 0, 1), 5);
        DUE.is("the same height once more", x.tide(0, 0, 5), 2);
        DUE.is("acts", x.count(3), 5);
    }

    private static void wrongHeightsDoNothing() {
        SoundingSheet x = new SoundingSheet();
        int[][] wrong = {{-1, 0, 0}, {100, 0, 0}, {0, -1, 0}, {0, 1440, 0}, {0, 0, -101}, {0, 0, 201},
            {Integer.MAX_VALUE, 0, 0}, {0, Integer.MIN_VALUE, 0}, {0, 0, Integer.MAX_VALUE}};
        for (int[] w : wrong) {
            DUE.is("tide(" + w[0] + ", " + w[1] + ", " + w[2] + ")", x.tide(w[0], w[1], w[2]), SoundingSheet.NONE);
        }
        DUE.is("acts", x.count(3), 0);
        DUE.is("water(0, 0, 1)", x.water(0, 0, 1), SoundingSheet.UNKNOWN);
    }

    private static void twelveAreTheMost() {
        SoundingSheet x = new SoundingSheet();
        for (int i = 0; i < 12; i++) {
            DUE.is("height " + i, x.tide(4, 1100 - 100 * i, i), i + 1);
        }
        DUE.is("a 13th", x.tide(4, 1439, 1), SoundingSheet.NONE);
        DUE.is("acts", x.count(3), 12);
        DUE.is("one in place of another", x.tide(4, 500, 50), 12);
        DUE.is("water at it", x.water(4, 500, 1), 50);
        DUE.is("another day's", x.tide(5, 1439, 1), 1);
        DUE.is("the day ahead of it", x.tide(3, 0, 1), 1);
        DUE.is("water(4, 0, 1)", x.water(4, 0, 1), 11);
    }

    private static void waterGoesByExactFractions() {
        SoundingSheet x = new SoundingSheet();
        x.tide(1, 0, -1);
        x.tide(1, 3, 1);
        DUE.is("-1 + 2 / 3, cut down", x.water(1, 1, 1), -1);
        DUE.is("-1 + 4 / 3, cut down", x.water(1, 2, 1), 0);
        DUE.is("times 3", x.water(1, 1, 3), -1);
        DUE.is("times 1439", x.water(1, 1, 1439), -480);
        x.tide(2, 0, 200);
        x.tide(2, 1439, -100);
        DUE.is("the greatest times", x.water(2, 0, 1439), 200 * 1439);
        DUE.is("the least times", x.water(2, 1439, 1439), -100 * 1439);
        DUE.is("a minute in, all of it", x.water(2, 1, 1439), 200 * 1439 - 300);
        x.tide(2, 2, 0);
        DUE.is("the nearest ones count", x.water(2, 1, 1), 100);
        DUE.is("behind it too", x.water(2, 1438, 1437), -100 * 1436);
    }

    private static void waterEndsWithTheDay() {
        SoundingSheet x = new SoundingSheet();
        x.tide(1, 1000, 10);
        x.tide(2, 100, 20);
        x.tide(2, 200, 30);
        DUE.is("told alone", x.water(1, 1000, 2), 20);
        DUE.is("no height behind it that day", x.water(1, 1001, 1), SoundingSheet.UNKNOWN);
        DUE.is("none ahead of it that day", x.water(2, 99, 1), SoundingSheet.UNKNOWN);
        DUE.is("first", x.water(2, 100, 1), 20);
        DUE.is("last", x.water(2, 200, 1), 30);
        DUE.is("behind the last", x.water(2, 201, 1), SoundingSheet.UNKNOWN);
    }

    private static void aHeightToldStandsAlone() {
        SoundingSheet x = new SoundingSheet();
        x.tide(0, 1439, 10);
        x.tide(1, 0, 20);
        x.tide(1, 2, 40);
        DUE.is("the last minute of a day", x.water(0, 1439, 1), 10);
        DUE.is("the minute ahead of it", x.water(0, 1438, 1), SoundingSheet.UNKNOWN);
        DUE.is("the first minute of the next", x.water(1, 0, 1), 20);
        DUE.is("between", x.water(1, 1, 1), 30);
        x.tide(1, 1, -7);
        DUE.is("told for it, not between", x.water(1, 1, 1), -7);
        DUE.is("nothing behind the last", x.water(1, 3, 1), SoundingSheet.UNKNOWN);
        x.undo();
        DUE.is("between again", x.water(1, 1, 1), 30);
        DUE.is("a day without any", x.water(2, 0, 1), SoundingSheet.UNKNOWN);
    }

    private static void theNearestOfTwelve() {
        SoundingSheet x = new SoundingSheet();
        int[] minutes = {500, 100, 900, 300, 700, 1100, 200, 1000, 400, 800, 600, 1200};
        for (int minute : minutes) {
            x.tide(9, minute, minute / 100 % 2 == 0 ? 200 : -100);
        }
        for (int minute = 100; minute <= 1200; minute++) {
            if (minute % 100 == 1 || minute % 100 == 99 || minute % 100 == 0 || minute % 100 == 37) {
                boolean falls = minute / 100 % 2 == 0;
                int part = minute % 100;
                int want = falls ? 200 * 100 - 300 * part : -100 * 100 + 300 * part;
                DUE.is("water at " + minute, x.water(9, minute, 100), want);
                DUE.is("cut down at " + minute, x.water(9, minute, 1), Math.floorDiv(want, 100));
            }
        }
        DUE.is("ahead of the first", x.water(9, 99, 1), SoundingSheet.UNKNOWN);
        DUE.is("behind the last", x.water(9, 1201, 1), SoundingSheet.UNKNOWN);
    }

    /** One part of so many, that many times, is 1; reckoned in doubles it is less for 49 and others. */
    private static void fractionsAreExact() {
        for (int parts = 2; parts < 1440; parts++) {
            SoundingSheet x = new SoundingSheet();
            x.tide(7, 0, 0);
            x.tide(7, parts, 1);
            x.tide(8, 1439 - parts, -1);
            x.tide(8, 1439, -2);
            DUE.is("one of " + parts, x.water(7, 1, parts), 1);
            DUE.is("one of " + parts + " and a bit less", x.water(7, 1, parts - 1), 0);
            DUE.is("all but one of " + parts, x.water(7, parts - 1, parts), parts - 1);
            DUE.is("falling by one of " + parts, x.water(8, 1440 - parts, parts), -parts - 1);
            DUE.is("falling by all but one of " + parts, x.water(8, 1438, parts), 1 - 2 * parts);
        }
    }

    private static void wrongWaterIsUnknown() {
        SoundingSheet x = new SoundingSheet();
        x.tide(0, 0, 1);
        x.tide(0, 1439, 1);
        x.tide(99, 0, 1);
        int[][] wrong = {{-1, 0, 1}, {100, 0, 1}, {0, -1, 1}, {0, 1440, 1}, {0, 0, 0}, {0, 0, 1440}, {0, 0, -1},
            {Integer.MIN_VALUE, 0, 1}, {0, Integer.MAX_VALUE, 1}, {0, 0, Integer.MAX_VALUE}};
        for (int[] w : wrong) {
            DUE.is("water(" + w[0] + ", " + w[1] + ", " + w[2] + ")", x.water(w[0], w[1], w[2]), SoundingSheet.UNKNOWN);
        }
        DUE.is("water(99, 0, 1)", x.water(99, 0, 1), 1);
        DUE.is("water(0, 0, 1439)", x.water(0, 0, 1439), 1439);
    }
}
