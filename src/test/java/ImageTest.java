import java.util.function.Supplier;

/** Promises 27 and 28: all is kept as the image, and all is as in the image. */
public final class ImageTest {
    private static final Due DUE = new Due();

    public static void main(String[] args) {
        theWholeImageComesBack();
        theImageIsACopy();
        theLaterImageStands();
        anEmptyImage();
        aFullImage();
        imageIsNoAct();
        actsAheadOfALoad();
        actsBehindALoad();
        DUE.end();
    }

    private static SoundingSheet first(SoundingSheet x) {
        x.line(0, 1400);
        x.line(50, 1600);
        int[][] tides = {{0, 0, -100}, {0, 1439, 200}, {3, 600, 7}, {50, 600, 9}, {99, 1439, 11}};
        for (int[] a : tides) {
            x.tide(a[0], a[1], a[2]);
        }
        x.shift(1, 50);
        x.lead(0, 603, 1, 2, 100);
        x.echo(1, 600, 200, 201, Float.floatToRawIntBits(101f));
        x.sweep(0, 0, 0, 0, 48, 49, 102);
        x.notice(3, 4, 40, 41, 103);
        x.notice(4, 5, 42, 43, -104);
        x.notice(5, 49, 254, 255, 105);
        x.gone(3, 50);
        x.gone(5, 98);
        return x;
    }

    /** It differs from the first in all that can be told of as many lines, heights and soundings. */
    private static SoundingSheet second(SoundingSheet x) {
        x.line(4, 1450);
        x.line(5, 1550);
        x.line(98, 1500);
        int[][] tides = {{0, 1, 50}, {0, 600, 51}, {0, 1438, 52}, {3, 1, 53}, {3, 607, 54}, {50, 0, 55}, {99, 0, 56}};
        for (int[] a : tides) {
            x.tide(a[0], a[1], a[2]);
        }
        x.shift(0, -7);
        x.notice(5, 98, 10, 11, 900);
        x.sweep(0, 1, 16, 17, 32, 33, 901);
        x.notice(4, 3, 5, 6, -9);
        x.lead(1, 2, 7, 8, 902);
        x.echo(2, 3, 9, 10, Float.floatToRawIntBits(903f));
        x.lead(0, 4, 11, 12, 904);
        x.gone(0, 99);
        x.gone(1, 4);
        return x;
    }

    private static SoundingSheet emptied(SoundingSheet x) {
        for (int i = 0; i < 20; i++) {
            x.undo();
        }
        return x;
    }

    private static SoundingSheet kept(SoundingSheet x) {
        x.image();
        return x;
    }

    private static SoundingSheet loaded(SoundingSheet x) {
        DUE.yes("load()", x.load());
        return x;
    }

    private static void same(String name, Supplier<SoundingSheet> want, Supplier<SoundingSheet> got) {
        Look.same(DUE, name, Look.at(want), got);
    }

    private static void theWholeImageComesBack() {
        SoundingSheet x = loaded(emptied(kept(first(new SoundingSheet()))));
        DUE.is("lines", x.count(0), 2);
        DUE.is("soundings", x.count(1), 6);
        DUE.is("acts", x.count(3), 0);
        same("another in between", () -> loaded(kept(first(new SoundingSheet()))),
            () -> loaded(second(emptied(kept(first(new SoundingSheet()))))));
        same("nothing in between", () -> loaded(kept(first(new SoundingSheet()))),
            () -> loaded(emptied(kept(first(new SoundingSheet())))));
        same("the other way round", () -> loaded(kept(second(new SoundingSheet()))),
            () -> loaded(first(emptied(kept(second(new SoundingSheet()))))));
    }

    private static void theImageIsACopy() {
        Supplier<SoundingSheet> once = () -> loaded(kept(first(new SoundingSheet())));
        same("load() twice", once, () -> loaded(once.get()));
        same("changes behind a load()", once, () -> loaded(changed(once.get())));
        same("changes behind two", once, () -> loaded(changed(loaded(changed(once.get())))));
    }

    private static SoundingSheet changed(SoundingSheet x) {
        x.speed(0, 1599);
        x.speed(1, 1401);
        x.shift(0, 1);
        x.shift(1, 2);
        x.tide(0, 0, 199);
        x.tide(3, 600, -99);
        x.tide(99, 1, 1);
        for (int s = 0; s < 6; s++) {
            x.gone(s, s);
        }
        return second(x);
    }

    private static void theLaterImageStands() {
        Supplier<SoundingSheet> second = () -> loaded(kept(second(new SoundingSheet())));
        same("the later image", second, () -> loaded(kept(second(emptied(kept(first(new SoundingSheet())))))));
        same("the later image, changed since", second,
            () -> loaded(first(emptied(kept(second(emptied(kept(first(new SoundingSheet())))))))));
    }

    private static void anEmptyImage() {
        Supplier<SoundingSheet> empty = () -> kept(new SoundingSheet());
        same("an empty image", empty, () -> loaded(first(empty.get())));
        same("as a new object", SoundingSheet::new, () -> refusedLoad(new SoundingSheet()));
        SoundingSheet x = loaded(first(empty.get()));
        DUE.is("no lines", x.count(0), 0);
        DUE.is("no soundings", x.count(1), 0);
        DUE.is("the first height", x.tide(0, 0, 0), 1);
        DUE.is("the first line", x.line(0, 1500), 0);
        DUE.is("the first sounding", x.notice(5, 0, 0, 0, 0), 0);
    }

    private static SoundingSheet refusedLoad(SoundingSheet x) {
        DUE.no("load() without an image", x.load());
        return x;
    }

    private static SoundingSheet full() {
        SoundingSheet x = new SoundingSheet();
        for (int i = 0; i < 20; i++) {
            x.line(99 - i, 1400 + i);
        }
        for (int i = 0; i < 12; i++) {
            x.tide(99, 1439 - i, i);
            x.tide(80, 100 * i, i);
        }
        for (int i = 0; i < 200; i++) {
            x.lead(i % 20, 1000, 255 - i, i, 9999 - i);
        }
        return x;
    }

    private static void aFullImage() {
        same("a full image", () -> loaded(kept(full())), () -> loaded(replaced(kept(full()))));
    }

    /** The last twenty are others in all but their number. */
    private static SoundingSheet replaced(SoundingSheet x) {
        emptied(x);
        for (int i = 0; i < 20; i++) {
            x.sweep(0, i, i, i, 2, 3, i);
        }
        return x;
    }

    private static void imageIsNoAct() {
        SoundingSheet x = first(new SoundingSheet());
        int acts = x.count(3);
        x.image();
        DUE.is("acts", x.count(3), acts);
        DUE.yes("undo() of the act ahead of the image", x.undo());
        DUE.is("it was gone()", x.sounding(5, 7), 100);
        loaded(x);
        DUE.is("as it was when the image was made", x.sounding(5, 7), 98);
    }

    private static void actsAheadOfALoad() {
        SoundingSheet x = kept(first(new SoundingSheet()));
        x.line(1, 1500);
        loaded(x);
        DUE.is("acts", x.count(3), 0);
        DUE.no("undo()", x.undo());
        DUE.is("lines", x.count(0), 2);
        DUE.is("soundings", x.count(1), 6);
    }

    private static void actsBehindALoad() {
        for (int n = 0; n <= 22; n++) {
            SoundingSheet x = loaded(kept(first(new SoundingSheet())));
            for (int i = 0; i < n; i++) {
                x.notice(5, 0, i, i, i);
            }
            int most = Math.min(n, 20);
            DUE.is("acts behind a load()", x.count(3), most);
            for (int i = 0; i < most; i++) {
                DUE.yes("undo " + i, x.undo());
            }
            DUE.no("none ahead of the load()", x.undo());
            DUE.is("soundings left", x.count(1), 6 + n - most);
        }
    }
}
