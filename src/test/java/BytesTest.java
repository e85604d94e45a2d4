/** Promises 13 to 16: feed, wipe, spoil and byteAt. */
public final class BytesTest {
    private BytesTest() {
    }

    public static void main(String[] args) {
        feed();
        feedWrongly();
        feedToTheLimit();
        wipe();
        spoil();
        byteAt();
        Check.end();
    }

    private static void feed() {
        PaletteReel x = new PaletteReel(1, 1);
        Check.due("one", x.feed(0x1FFL, 1), 1);
        Check.due("the lowest first", x.feed(0x8877665544332211L, 8), 9);
        Check.due("three of eight", x.feed(-2L, 3), 12);
        Check.due("the bytes", Check.bytes(x), "255 17 34 51 68 85 102 119 136 254 255 255");
        Check.due("behind what was written", x.write(), 12);
        x.feed(7, 2);
        Check.due("the bytes", Check.bytes(x), "80 49 1 1 0 0 0 0 0 0 0 59 7 0");
    }

    private static void feedWrongly() {
        PaletteReel x = new PaletteReel(1, 1);
        x.feed(5, 1);
        int[] wrong = {0, 9, -1, Integer.MIN_VALUE, Integer.MAX_VALUE};
        for (int n : wrong) {
            Check.due("feed of " + n, x.feed(1, n), -1);
        }
        Check.due("nothing changed", Check.bytes(x), "5");
    }

    private static void feedToTheLimit() {
        PaletteReel x = new PaletteReel(1, 1);
        for (int i = 1; i <= 99; i++) {
            Check.due("feed", x.feed(i, 8), 8 * i);
        }
        Check.due("up to 797", x.feed(0, 5), 797);
        Check.due("801 are too many", x.feed(-1, 4), -1);
        Check.due("nothing came", x.byteAt(797), -1);
        Check.due("800 are not", x.feed(0x090807, 3), 800);
        Check.due("the last one", x.byteAt(799), 9);
        Check.due("no more", x.feed(0, 1), -1);
        Check.due("no more", x.feed(0, 8), -1);
        Check.due("800 were there", x.wipe(), 800);
        Check.due("and it begins anew", x.feed(3, 1), 1);
    }

    private static void wipe() {
        PaletteReel x = new PaletteReel(1, 1);
        Check.due("nothing to wipe", x.wipe(), 0);
        x.frame(0, 0, 1, 1);
        x.draw(1);
        x.write();
        Check.due("what was written", x.wipe(), 27);
        Check.due("nothing is left", x.wipe(), 0);
        Check.due("no byte 0", x.byteAt(0), -1);
        Check.due("the reel stays", x.frames(), 1);
        Check.due("the canvas stays", x.shown(0, 0), 0);
    }

    private static void spoil() {
        PaletteReel x = new PaletteReel(1, 1);
        Check.due("no byte 0", x.spoil(0, 1), false);
        x.feed(0x030201, 3);
        Check.due("byte 0", x.spoil(0, 0x1FE), true);
        Check.due("byte 2", x.spoil(2, -1), true);
        Check.due("byte 1", x.spoil(1, 256), true);
        Check.due("no byte 3", x.spoil(3, 1), false);
        Check.due("no byte -1", x.spoil(-1, 1), false);
        Check.due("the bytes", Check.bytes(x), "254 0 255");
        x.wipe();
        Check.due("no byte 0 any more", x.spoil(0, 1), false);
        x.feed(0, 1);
        Check.due("nothing is left of it", x.byteAt(0), 0);
    }

    private static void byteAt() {
        PaletteReel x = new PaletteReel(1, 1);
        Check.due("no byte 0", x.byteAt(0), -1);
        x.feed(0xC8, 1);
        Check.due("byte 0", x.byteAt(0), 200);
        int[] none = {-1, 1, 799, 800, Integer.MIN_VALUE, Integer.MAX_VALUE};
        for (int k : none) {
            Check.due("no byte " + k, x.byteAt(k), -1);
        }
    }
}
