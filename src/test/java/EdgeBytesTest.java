/** The edges that the document names of the bytes as such: promises 13 to 16. */
public final class EdgeBytesTest {
    private static final int LOWEST = Integer.MIN_VALUE;
    private static final int HIGHEST = Integer.MAX_VALUE;

    private EdgeBytesTest() {
    }

    public static void main(String[] args) {
        lowestBytesOfANumber();
        behindTheBytes();
        feedOfTooFewOrTooMany();
        feedBeyondTheLimit();
        wipeNoneAndAll();
        spoilOneByte();
        spoilNone();
        byteOfTheBytes();
        byteOfNone();
        Check.end();
    }

    /** A new object with so many bytes, byte k being k % 251. */
    private static PaletteReel holding(int length) {
        PaletteReel x = new PaletteReel(1, 1);
        for (int start = 0; start < length; start += 8) {
            long w = 0;
            for (int i = 7; i >= 0; i--) {
                w = w << 8 | (start + i) % 251;
            }
            x.feed(w, Math.min(8, length - start));
        }
        return x;
    }

    private static void lowestBytesOfANumber() {
        Check.says("Promise 13", "Puts the n lowest bytes of w, the lowest first, behind the bytes");
        long[] words = {0x8877665544332211L, -1L, 0L, Long.MIN_VALUE, Long.MAX_VALUE, 0xFF00FF00FF00FF80L, 256L};
        for (long w : words) {
            for (int n = 1; n <= 8; n++) {
                PaletteReel x = new PaletteReel(1, 1);
                Check.due("how many", x.feed(w, n), n);
                for (int i = 0; i < n; i++) {
                    Check.due("byte " + i + " of " + w, x.byteAt(i), w >>> 8 * i & 0xFF);
                }
                Check.due("none behind", x.byteAt(n), -1);
            }
        }
    }

    private static void behindTheBytes() {
        Check.says("Promise 13", "how many there are then");
        PaletteReel x = new PaletteReel(1, 1);
        int length = 0;
        for (int n = 1; n <= 8; n++) {
            length += n;
            Check.due("then", x.feed(0x0807060504030201L * n, n), length);
        }
        int at = 0;
        for (int n = 1; n <= 8; n++) {
            Check.due("the first of " + n, x.byteAt(at), n);
            at += n;
        }
        PaletteReel y = new PaletteReel(1, 1);
        int written = y.write();
        Check.due("behind what was written", y.feed(7, 1), written + 1);
        Check.due("the last of that stays", y.byteAt(written - 1), 59);
        Check.due("the new one", y.byteAt(written), 7);
    }

    private static void feedOfTooFewOrTooMany() {
        Check.says("Promise 13", "NONE, changing nothing, when n is not 1 .. 8");
        int[] wrong = {LOWEST, -8, -1, 0, 9, 16, 64, 257, HIGHEST};
        for (int n : wrong) {
            Scene.keeps("feed of " + n, Scene::some, PaletteReel.NONE, x -> x.feed(-1, n));
            Scene.keeps("feed of " + n, Scene::bare, PaletteReel.NONE, x -> x.feed(-1, n));
            Scene.keeps("feed of " + n, Scene::full, PaletteReel.NONE, x -> x.feed(-1, n));
        }
        Check.due("1 is taken", Scene.bare().feed(-1, 1), 1);
        Check.due("8 are taken", Scene.bare().feed(-1, 8), 8);
    }

    private static void feedBeyondTheLimit() {
        Check.says("Promise 13", "NONE, changing nothing, when ... there would be more than 800.");
        for (int length = 791; length <= 800; length++) {
            for (int n = 1; n <= 8; n++) {
                PaletteReel x = holding(length);
                boolean may = length + n <= 800;
                Check.due(n + " behind " + length, x.feed(-1, n), may ? length + n : -1);
                Check.due("the first of them", x.byteAt(length), may ? 255 : -1);
                Check.due("the last of them", x.byteAt(length + n - 1), may ? 255 : -1);
                Check.due("the last before them", x.byteAt(length - 1), (length - 1) % 251);
                Check.due("how many", x.wipe(), may ? length + n : length);
            }
        }
        for (int n = 1; n <= 8; n++) {
            int more = n;
            Scene.keeps("feed of " + n, Scene::full, PaletteReel.NONE, x -> x.feed(0, more));
        }
    }

    private static void wipeNoneAndAll() {
        Check.says("Promise 14", "There are no bytes any more: how many there were.");
        Scene.keeps("none to wipe", Scene::bare, 0, x -> x.wipe());
        int[] lengths = {1, 8, 799, 800};
        for (int length : lengths) {
            PaletteReel x = holding(length);
            Check.due("how many", x.wipe(), length);
            Check.due("no first one", x.byteAt(0), -1);
            Check.due("no last one", x.byteAt(length - 1), -1);
            Check.due("none to spoil", x.spoil(0, 1), false);
            Check.noArgument("none to read", () -> x.read());
            Check.due("none to wipe again", x.wipe(), 0);
            Check.due("new ones begin at 0", x.feed(5, 1), 1);
            Check.due("the new one", x.byteAt(0), 5);
            Check.due("no old one behind it", x.byteAt(1), -1);
        }
        PaletteReel y = Scene.some();
        y.wipe();
        Check.due("the reel stays", Check.reelState(y), Check.reelState(Scene.some()));
        Check.due("the canvas stays", Check.canvas(y), Check.canvas(Scene.some()));
        Check.due("the picture stays", Scene.picture(y), Scene.picture(Scene.some()));
    }

    private static void spoilOneByte() {
        Check.says("Promise 15", "A byte becomes the lowest 8 bits of value: true.");
        int[] given = {0, 1, 255, 256, 257, -1, -256, -255, LOWEST, HIGHEST, 0x12345678};
        int[] due = {0, 1, 255, 0, 1, 255, 0, 1, 0, 255, 0x78};
        int[] places = {0, 1, 398, 798, 799};
        for (int i = 0; i < given.length; i++) {
            for (int k : places) {
                PaletteReel x = holding(800);
                Check.due("spoil(" + k + ", " + given[i] + ")", x.spoil(k, given[i]), true);
                Check.due("it is so", x.byteAt(k), due[i]);
                Check.due("the one before stays", x.byteAt(k - 1), k == 0 ? -1 : (k - 1) % 251);
                Check.due("the one behind stays", x.byteAt(k + 1), k == 799 ? -1 : (k + 1) % 251);
                Check.due("as many", x.wipe(), 800);
            }
        }
    }

    private static void spoilNone() {
        Check.says("Promise 15", "False when there is none such.");
        int[] none = {LOWEST, -1, 800, 801, HIGHEST};
        for (int k : none) {
            Scene.keeps("spoil " + k, Scene::full, 0, x -> x.spoil(k, 1) ? 1 : 0);
            Scene.keeps("spoil " + k, Scene::some, 0, x -> x.spoil(k, 1) ? 1 : 0);
        }
        Scene.keeps("spoil 0 of none", Scene::bare, 0, x -> x.spoil(0, 1) ? 1 : 0);
        for (int length = 1; length <= 3; length++) {
            PaletteReel x = holding(length);
            Check.due("the first behind", x.spoil(length, 9), false);
            Check.due("the last one", x.spoil(length - 1, 9), true);
            Check.due("as many", x.wipe(), length);
            Check.due("none of those that were", x.spoil(length - 1, 9), false);
        }
    }

    private static void byteOfTheBytes() {
        Check.says("Promise 16", "Byte k");
        PaletteReel x = holding(800);
        int[] places = {0, 1, 7, 8, 250, 251, 798, 799};
        for (int k : places) {
            Check.due("byte " + k, x.byteAt(k), k % 251);
        }
        PaletteReel y = new PaletteReel(1, 1);
        y.feed(0xFF80007FL, 4);
        Check.due("none is below 0", y.byteAt(3) * 1000 + y.byteAt(2), 255128);
        Check.due("0 is a byte", y.byteAt(1), 0);
    }

    private static void byteOfNone() {
        Check.says("Promise 16", "NONE when there is none.");
        int[] none = {LOWEST, -1, 800, 801, HIGHEST};
        for (int k : none) {
            Scene.keeps("byte " + k, Scene::full, PaletteReel.NONE, x -> x.byteAt(k));
            Scene.keeps("byte " + k, Scene::some, PaletteReel.NONE, x -> x.byteAt(k));
            Scene.keeps("byte " + k, Scene::bare, PaletteReel.NONE, x -> x.byteAt(k));
        }
        Scene.keeps("byte 0 of none", Scene::bare, PaletteReel.NONE, x -> x.byteAt(0));
        for (int length = 1; length <= 9; length++) {
            PaletteReel x = holding(length);
            Check.due("the last one", x.byteAt(length - 1), length - 1);
            Check.due("none behind it", x.byteAt(length), -1);
        }
    }
}
