import java.util.List;

/** Objects with something in each part of them, to see that a refused call changes nothing. */
final class Scene {
    interface Maker {
        PaletteReel make();
    }

    interface On {
        void run(PaletteReel reel);
    }

    interface Ask {
        long of(PaletteReel reel);
    }

    static final String INDEX = "IndexOutOfBoundsException";
    static final String ARGUMENT = "IllegalArgumentException";
    static final String STATE = "IllegalStateException";

    private Scene() {
    }

    /** Nothing but what a new object has. */
    static PaletteReel bare() {
        return new PaletteReel(3, 2);
    }

    /** Two frames: frame 0 has the reel's 4 colours, frame 1 has 8 of its own. */
    static PaletteReel some() {
        PaletteReel x = new PaletteReel(3, 2);
        x.palette(-1, 2);
        for (int k = 0; k < 4; k++) {
            x.colour(-1, k, 0x102030 + k);
        }
        x.frame(1, 1, 3, 2);
        x.pixel(0, 0, 0, 3);
        x.pixel(0, 2, 1, 1);
        x.set(0, 1, 9, 2, true);
        x.frame(0, 0, 2, 3);
        x.palette(1, 3);
        for (int k = 0; k < 8; k++) {
            x.colour(1, k, 0xA0B0C0 + k);
        }
        x.pixel(1, 1, 2, 7);
        x.pixel(1, 0, 0, 4);
        x.set(1, 3, 200, 5, false);
        paint(x);
        x.write();
        x.feed(0x0102030405L, 5);
        x.draw(2);
        return x;
    }

    /** Four frames, and as many bytes as there may be. */
    static PaletteReel full() {
        PaletteReel x = some();
        x.frame(7, 7, 1, 1);
        x.frame(2, 0, 1, 2);
        x.palette(3, 1);
        x.pixel(3, 0, 1, 1);
        x.draw(4);
        int length = x.write();
        while (length < 800) {
            length = x.feed(length, Math.min(8, 800 - length));
        }
        return x;
    }

    private static void paint(PaletteReel x) {
        for (int i = 0; i < 6; i++) {
            x.paint(i % 3, i / 3, 0x304050 + 0x010305 * (i % 5));
        }
    }

    /** The same with these bytes in place of its own. */
    static Maker holding(Maker scene, List<Integer> bytes) {
        return () -> {
            PaletteReel x = scene.make();
            Check.give(x, bytes);
            return x;
        };
    }

    static void refuses(String what, Maker scene, String exception, On call) {
        PaletteReel x = scene.make();
        Check.due(what, Check.thrown(() -> call.run(x)), exception);
        unchanged(what, scene, x);
    }

    /** The call answers so, and changes nothing. */
    static void keeps(String what, Maker scene, long due, Ask call) {
        PaletteReel x = scene.make();
        Check.due(what, call.of(x), due);
        unchanged(what, scene, x);
    }

    /** Looks at all parts, and at the picture last, for that takes the frames away. */
    private static void unchanged(String what, Maker scene, PaletteReel x) {
        PaletteReel twin = scene.make();
        Check.due("the reel after " + what, Check.reelState(x), Check.reelState(twin));
        Check.due("the canvas after " + what, Check.canvas(x), Check.canvas(twin));
        Check.due("the bytes after " + what, someBytes(x), someBytes(twin));
        Check.due("the picture after " + what, picture(x), picture(twin));
        Check.due("how many bytes after " + what, x.wipe(), twin.wipe());
    }

    /** The first and the last ones: all 800 would take more calls than an object is used for. */
    private static String someBytes(PaletteReel x) {
        StringBuilder text = new StringBuilder();
        for (int k = 0; k <= 800; k += k == 100 ? 690 : 1) {
            text.append(x.byteAt(k)).append(' ');
        }
        return text.toString();
    }

    /** The colours of a picture that has at most 16 different ones; the frames are gone then. */
    static String picture(PaletteReel x) {
        x.cut();
        x.reduce(16, 0);
        StringBuilder text = new StringBuilder();
        int width = x.get(0, 2);
        int height = x.get(0, 3);
        for (int y = 0; y < height; y++) {
            text.append(y == 0 ? "" : "/");
            for (int i = 0; i < width; i++) {
                text.append(i == 0 ? "" : " ");
                text.append(Integer.toHexString(x.colourAt(0, x.pixelAt(0, i, y))));
            }
        }
        return text.toString();
    }
}
