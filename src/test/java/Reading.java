import java.util.Collections;
import java.util.List;

/** What the tests of reading share: bytes that are read, and bytes that are refused. */
final class Reading {
    static final List<Integer> HEAD = Parts.head(3, 2, 1);
    static final List<Integer> DOT = Parts.dot();

    private Reading() {
    }

    /** A whole reel, with these parts behind its palette. */
    @SafeVarargs
    static List<Integer> reel(List<Integer>... between) {
        return Check.join(HEAD, Check.join(between), Parts.LAST);
    }

    static PaletteReel reads(String what, List<Integer> bytes, int frames) {
        PaletteReel x = new PaletteReel(5, 5);
        Check.give(x, bytes);
        int[] got = {-9};
        Check.fine("reading " + what, () -> got[0] = x.read());
        Check.due(what, got[0], frames);
        return x;
    }

    static void refuses(String what, List<Integer> bytes) {
        Scene.refuses(what, Scene.holding(Scene::some, bytes), Scene.ARGUMENT, x -> x.read());
    }

    /** For many bytes: without a look at all that should not have changed. */
    static void refusesQuickly(String what, List<Integer> bytes) {
        PaletteReel x = new PaletteReel(5, 5);
        Check.give(x, bytes);
        Check.noArgument(what, () -> x.read());
        Check.due("the reel after " + what, x.get(-1, 2) * 10 + x.frames(), 50);
    }

    static void pixelsDue(String what, List<Integer> bytes, String pixels) {
        PaletteReel x = reads(what, bytes, 1);
        Check.due("pixels of " + what, x.frames() == 1 ? Check.pixels(x, 0) : "none", pixels);
    }

    /** So many rows of eight pixels, as text. */
    static String zeros(int rows) {
        return String.join("/", Collections.nCopies(rows, "00000000"));
    }
}
