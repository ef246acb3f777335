/** The calls of the document's face by their names, so that tests can go through them by tables. */
final class Calls {
    private Calls() { }

    static boolean isAct(String name) {
        return switch (name) {
            case "line", "tide", "speed", "shift", "lead", "echo", "sweep", "notice", "gone" -> true;
            default -> false;
        };
    }

    /** A boolean counts 1 or 0. */
    static int call(SoundingSheet x, String name, int... a) {
        return isAct(name) ? act(x, name, a) : ask(x, name, a);
    }

    private static int act(SoundingSheet x, String name, int... a) {
        return switch (name) {
            case "line" -> x.line(a[0], a[1]);
            case "tide" -> x.tide(a[0], a[1], a[2]);
            case "speed" -> number(x.speed(a[0], a[1]));
            case "shift" -> number(x.shift(a[0], a[1]));
            case "lead" -> x.lead(a[0], a[1], a[2], a[3], a[4]);
            case "echo" -> x.echo(a[0], a[1], a[2], a[3], a[4]);
            case "sweep" -> x.sweep(a[0], a[1], a[2], a[3], a[4], a[5], a[6]);
            case "notice" -> x.notice(a[0], a[1], a[2], a[3], a[4]);
            case "gone" -> number(x.gone(a[0], a[1]));
            default -> throw new IllegalArgumentException(name);
        };
    }

    private static int ask(SoundingSheet x, String name, int... a) {
        return switch (name) {
            case "count" -> x.count(a[0]);
            case "sounding" -> x.sounding(a[0], a[1]);
            case "depth" -> x.depth(a[0]);
            case "boat" -> x.boat(a[0], a[1]);
            case "water" -> x.water(a[0], a[1], a[2]);
            case "cross" -> x.cross(a[0], a[1], a[2], a[3]);
            case "worst" -> x.worst(a[0]);
            case "shown" -> x.shown(a[0], a[1], a[2], a[3]);
            case "why" -> x.why(a[0], a[1], a[2]);
            case "bottom" -> x.bottom(a[0], a[1]);
            case "deepest" -> x.deepest(a[0], a[1], a[2]);
            case "way" -> x.way(a[0], a[1], a[2], a[3]);
            case "narrow" -> x.narrow(a[0], a[1], a[2]);
            case "draught" -> number(x.draught(a[0], a[1], a[2], a[3]));
            case "check" -> x.check(a[0], a[1], a[2]);
            case "undo" -> number(x.undo());
            case "load" -> number(x.load());
            case "image" -> image(x);
            default -> throw new IllegalArgumentException(name);
        };
    }

    /** It answers nothing, which counts 0. */
    private static int image(SoundingSheet x) {
        x.image();
        return 0;
    }

    private static int number(boolean answer) {
        return answer ? 1 : 0;
    }
}
