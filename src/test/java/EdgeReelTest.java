/** The edges that the document names of a reel and its frames: Terms, and promises 1 to 11. */
public final class EdgeReelTest {
    private static final int LOWEST = Integer.MIN_VALUE;
    private static final int HIGHEST = Integer.MAX_VALUE;
    private static final int[] NO_FRAME_OF_TWO = {LOWEST, -2, 2, 3, 4, HIGHEST};

    private EdgeReelTest() {
    }

    public static void main(String[] args) {
        callsOfAnObject();
        sizesOfAReel();
        sizesOfPalettes();
        coloursAreInts();
        numbersOfFrames();
        placesOfFrames();
        sizesOfFrames();
        paletteOfAFrameWithoutOne();
        pixelsOfAFrame();
        numbersOfAPalette();
        rangesOfSettings();
        newObject();
        newObjectTooSmallOrTooLarge();
        coloursThatStay();
        noneOfItsOwn();
        howManyColours();
        paletteOfNoFrame();
        bitsOutOfRange();
        pixelsThatForbidAPalette();
        clearNumbersThatForbidAPalette();
        eachOfFourFrames();
        lowestBitsOfAColour();
        colourOfNoFrame();
        noSuchColourOfItsOwn();
        whatANewFrameIs();
        frameOutOfRange();
        fifthFrame();
        pixelBecomesANumber();
        noSuchFrameOrPixel();
        numberOfNoColour();
        settingsAreTaken();
        settingsOfNoFrame();
        settingsOutOfRange();
        cutNoneAndFour();
        countOfFrames();
        whatIsAskedOfAFrame();
        whatIsAskedOfTheReel();
        noSuchWhat();
        colourOfAPalette();
        noSuchColour();
        pixelOfAFrame();
        noSuchPixel();
        Check.end();
    }

    // What it is, and Terms

    private static void callsOfAnObject() {
        Check.says("What it is", "An object is used for at most 512 calls after it has been made");
        PaletteReel x = new PaletteReel(8, 8);
        for (int i = 0; i < 127; i++) {
            Check.due("a frame", x.frame(i % 8, 0, 8, 8), 0);
            Check.due("its bytes", x.write() > 0, true);
            Check.due("a box", x.reduce(1 + i % 16, i % 3), 1);
            Check.due("two frames", x.cut(), 2);
        }
        x.write();
        Check.due("call 510", x.read(), 0);
        x.paint(7, 7, 1);
        Check.due("call 512", x.reduce(16, 2), 2);
    }

    private static void sizesOfAReel() {
        Check.says("Terms", "A REEL has a WIDTH and a HEIGHT (1 .. 8)");
        for (int width = 1; width <= 8; width++) {
            for (int height = 1; height <= 8; height++) {
                sizeOfAReel(width, height);
            }
        }
    }

    private static void sizeOfAReel(int width, int height) {
        PaletteReel x = new PaletteReel(width, height);
        Check.due("width", x.get(-1, 2), width);
        Check.due("height", x.get(-1, 3), height);
        Check.due("the last place", x.shown(width - 1, height - 1), -1);
        Check.noIndex("no place right of it", () -> x.shown(width, height - 1));
        Check.noIndex("no place below it", () -> x.shown(width - 1, height));
        Check.fine("the last place of the picture", () -> x.paint(width - 1, height - 1, 1));
        Check.noIndex("none right of it", () -> x.paint(width, 0, 1));
        Check.noIndex("none below it", () -> x.paint(0, height, 1));
    }

    private static void sizesOfPalettes() {
        Check.says("Terms", "a PALETTE of 2, 4, 8 or 16 COLOURS");
        for (int f = -1; f <= 0; f++) {
            for (int bits = 1; bits <= 4; bits++) {
                PaletteReel x = new PaletteReel(1, 1);
                x.frame(0, 0, 1, 1);
                int owner = f;
                int n = x.palette(f, bits);
                Check.due("colours of " + f, n, new int[] {0, 2, 4, 8, 16}[bits]);
                for (int k = 0; k < n; k++) {
                    x.colour(f, k, 1000 + k);
                }
                for (int k = 0; k < n; k++) {
                    Check.due("colour " + k, x.colourAt(f, k), 1000 + k);
                }
                Check.noIndex("none behind the last", () -> x.colour(owner, n, 1));
                Check.noIndex("none behind the last to look at", () -> x.colourAt(owner, n));
            }
        }
    }

    private static void coloursAreInts() {
        Check.says("Terms", "COLOURS (ints 0 .. 0xFFFFFF: red * 65536 + green * 256 + blue)");
        PaletteReel x = new PaletteReel(1, 1);
        int[] given = {0, 1, 255, 256, 65535, 65536, 0xFFFFFE, 0xFFFFFF};
        for (int rgb : given) {
            x.colour(-1, 1, rgb);
            Check.due("a colour", x.colourAt(-1, 1), rgb);
        }
        x.colour(-1, 1, 3 * 65536 + 2 * 256 + 1);
        x.write();
        Check.due("red", x.byteAt(8), 3);
        Check.due("green", x.byteAt(9), 2);
        Check.due("blue", x.byteAt(10), 1);
    }

    private static void numbersOfFrames() {
        Check.says("Terms", "up to 4 FRAMES, numbered from 0");
        PaletteReel x = new PaletteReel(2, 2);
        for (int f = 0; f < 4; f++) {
            int number = f;
            Check.noIndex("not there yet", () -> x.get(number, 0));
            Check.due("its number", f % 2 == 0 ? x.frame(f, 0, 1, 1) : x.reduce(1, 0) - 1 + f, f);
            Check.due("it is there", x.get(f, 0), f % 2 == 0 ? f : 0);
            Check.due("how many", x.frames(), f + 1);
        }
        Check.due("as many are written and read", x.write() > 0 ? x.read() : -1, 4);
        Scene.refuses("a fifth one", Scene::full, Scene.STATE, y -> y.frame(0, 0, 1, 1));
        Scene.refuses("a fifth one by reduce", Scene::full, Scene.STATE, y -> y.reduce(1, 0));
    }

    private static void placesOfFrames() {
        Check.says("Terms", "A frame has LEFT and TOP (0 .. 7)");
        for (int at = 0; at <= 7; at++) {
            PaletteReel x = new PaletteReel(1, 1);
            x.frame(at, 7 - at, 1, 1);
            Check.due("left", x.get(0, 0), at);
            Check.due("top", x.get(0, 1), 7 - at);
        }
        int[] wrong = {LOWEST, -1, 8, HIGHEST};
        for (int at : wrong) {
            Scene.refuses("left " + at, Scene::some, Scene.ARGUMENT, x -> x.frame(at, 0, 1, 1));
            Scene.refuses("top " + at, Scene::some, Scene.ARGUMENT, x -> x.frame(0, at, 1, 1));
        }
    }

    private static void sizesOfFrames() {
        Check.says("Terms", "a width and a height of its own (1 .. 8; it may reach beyond the reel)");
        for (int size = 1; size <= 8; size++) {
            PaletteReel x = new PaletteReel(1, 1);
            x.frame(7, 7, size, 9 - size);
            Check.due("width", x.get(0, 2), size);
            Check.due("height", x.get(0, 3), 9 - size);
            x.pixel(0, size - 1, 8 - size, 1);
            Check.due("its last pixel", x.pixelAt(0, size - 1, 8 - size), 1);
        }
        int[] wrong = {LOWEST, -1, 0, 9, HIGHEST};
        for (int size : wrong) {
            Scene.refuses("width " + size, Scene::some, Scene.ARGUMENT, x -> x.frame(0, 0, size, 1));
            Scene.refuses("height " + size, Scene::some, Scene.ARGUMENT, x -> x.frame(0, 0, 1, size));
        }
    }

    private static void paletteOfAFrameWithoutOne() {
        Check.says("Terms", "perhaps a palette of its own (otherwise the reel's is its palette)");
        PaletteReel x = new PaletteReel(1, 1);
        x.frame(0, 0, 1, 1);
        Check.noArgument("2 is none of the reel's two", () -> x.pixel(0, 0, 0, 2));
        x.palette(-1, 2);
        x.colour(-1, 3, 33);
        Check.fine("3 is one of its four", () -> x.pixel(0, 0, 0, 3));
        Check.due("the reel's colour", x.colourAt(0, 3), 33);
        Check.due("it is drawn so", x.draw(1) * 100 + x.shown(0, 0), 133);
        x.palette(0, 2);
        Check.due("its own colour", x.colourAt(0, 3), 0);
        Check.due("it is drawn so", x.draw(1) * 100 + x.shown(0, 0), 100);
        x.palette(0, 0);
        Check.due("the reel's again", x.colourAt(0, 3), 33);
    }

    private static void pixelsOfAFrame() {
        Check.says("Terms", "a PIXEL for each x from 0 below its width and y from 0 below its height");
        int[][] sizes = {{1, 1}, {8, 1}, {1, 8}, {8, 8}, {3, 5}};
        for (int[] size : sizes) {
            PaletteReel x = new PaletteReel(1, 1);
            x.frame(0, 0, size[0], size[1]);
            for (int i = 0; i < size[0] * size[1]; i++) {
                x.pixel(0, i % size[0], i / size[0], i * 5 % 3 % 2);
            }
            for (int i = 0; i < size[0] * size[1]; i++) {
                Check.due("pixel " + i, x.pixelAt(0, i % size[0], i / size[0]), i * 5 % 3 % 2);
            }
            Check.noIndex("none right of it", () -> x.pixel(0, size[0], size[1] - 1, 0));
            Check.noIndex("none below it", () -> x.pixel(0, size[0] - 1, size[1], 0));
        }
    }

    private static void numbersOfAPalette() {
        Check.says("Terms", "which is a number of a colour of its palette");
        for (int bits = 1; bits <= 4; bits++) {
            int n = 1 << bits;
            for (int f = -1; f <= 0; f++) {
                PaletteReel x = new PaletteReel(1, 1);
                x.frame(0, 0, 1, 1);
                x.palette(f, bits);
                Check.fine("the last of " + n, () -> x.pixel(0, 0, 0, n - 1));
                Check.noArgument("none of " + n, () -> x.pixel(0, 0, 0, n));
                Check.due("the last stays", x.pixelAt(0, 0, 0), n - 1);
            }
        }
    }

    private static void rangesOfSettings() {
        Check.says("Terms", "a DISPOSAL 0 .. 3, a DELAY 0 .. 255, perhaps a CLEAR number of its palette,"
            + " and it may be WOVEN");
        PaletteReel x = Scene.some();
        for (int i = 0; i < 4; i++) {
            x.set(0, i, 85 * i, i, i % 2 == 0);
            Check.due("disposal", x.get(0, 5), i);
            Check.due("delay", x.get(0, 6), 85 * i);
            Check.due("clear number", x.get(0, 7), i);
            Check.due("woven", x.get(0, 8), 1 - i % 2);
        }
        Check.noArgument("4 is none of its palette", () -> x.set(0, 0, 0, 4, false));
        x.set(1, 0, 0, 7, false);
        Check.due("7 is one of the palette of its own", x.get(1, 7), 7);
        Check.noArgument("8 is none", () -> x.set(1, 0, 0, 8, false));
    }

    // Promise 1

    private static void newObject() {
        Check.says("Promise 1", "A reel without frames, its palette two colours 0; the picture is all 0,"
            + " there are no bytes, the canvas is all NONE.");
        int[] sizes = {1, 8};
        for (int size : sizes) {
            PaletteReel x = new PaletteReel(size, 9 - size);
            Check.due("frames", x.frames(), 0);
            Check.due("colours", x.get(-1, 4), 2);
            Check.due("colour 0", x.colourAt(-1, 0), 0);
            Check.due("colour 1", x.colourAt(-1, 1), 0);
            Check.due("bytes", x.byteAt(0), -1);
            Check.due("bytes to wipe", x.wipe(), 0);
            for (int i = 0; i < 8; i++) {
                Check.due("canvas", size == 8 ? x.shown(i, 0) : x.shown(0, i), -1);
            }
            Check.due("picture", Scene.picture(x), size == 8 ? "0 0 0 0 0 0 0 0" : "0/0/0/0/0/0/0/0");
        }
    }

    private static void newObjectTooSmallOrTooLarge() {
        Check.says("Promise 1", "Width and height are 1 when less, 8 when more.");
        int[] asked = {LOWEST, -8, -1, 0, 1, 2, 7, 8, 9, 16, 257, HIGHEST};
        int[] due = {1, 1, 1, 1, 1, 2, 7, 8, 8, 8, 8, 8};
        for (int i = 0; i < asked.length; i++) {
            for (int k = 0; k < asked.length; k++) {
                PaletteReel x = new PaletteReel(asked[i], asked[k]);
                Check.due("width of " + asked[i], x.get(-1, 2), due[i]);
                Check.due("height of " + asked[k], x.get(-1, 3), due[k]);
                x.write();
                Check.due("written width of " + asked[i], x.byteAt(2), due[i]);
                Check.due("written height of " + asked[k], x.byteAt(3), due[k]);
            }
        }
    }

    // Promise 2

    private static void coloursThatStay() {
        Check.says("Promise 2", "The palette (of frame f, or of the reel with f = -1) becomes 2 to the power of bits"
            + " colours, those that it had (none for a frame that had none of its own) and others 0");
        for (int f = -1; f <= 0; f++) {
            for (int from = f == -1 ? 1 : 0; from <= 4; from++) {
                for (int to = 1; to <= 4; to++) {
                    coloursThatStay(f, from, to);
                }
            }
        }
    }

    /** The palette had 16 colours once: what is gone since then must not come back. */
    private static void coloursThatStay(int f, int from, int to) {
        PaletteReel x = new PaletteReel(1, 1);
        x.frame(0, 0, 1, 1);
        x.palette(f, 4);
        for (int k = 0; k < 16; k++) {
            x.colour(f, k, 100 + k);
            x.colour(-1, k % 2, f == -1 ? 100 + k % 2 : 50);
        }
        x.palette(f, from);
        x.palette(f, to);
        int had = from == 0 ? 0 : 1 << from;
        for (int k = 0; k < 1 << to; k++) {
            Check.due("colour " + k + " of " + f + " from " + from + " to " + to,
                x.colourAt(f, k), k < had ? 100 + k : 0);
        }
    }

    private static void noneOfItsOwn() {
        Check.says("Promise 2", "with bits = 0 the frame has none of its own");
        for (int bits = 0; bits <= 4; bits++) {
            PaletteReel x = new PaletteReel(1, 1);
            x.colour(-1, 1, 55);
            x.frame(0, 0, 1, 1);
            x.frame(0, 0, 1, 1);
            x.palette(0, bits);
            x.palette(1, 2);
            Check.due("palette(0, 0)", x.palette(0, 0), 0);
            Check.due("none of its own", x.get(0, 4), 0);
            Check.due("the reel's", x.colourAt(0, 1), 55);
            Check.noIndex("none to change", () -> x.colour(0, 0, 1));
            Check.due("another frame keeps its own", x.get(1, 4), 4);
        }
    }

    private static void howManyColours() {
        Check.says("Promise 2", "How many colours there are then (0 for none of its own).");
        PaletteReel x = new PaletteReel(1, 1);
        x.frame(0, 0, 1, 1);
        int[] due = {0, 2, 4, 8, 16};
        int[] turns = {4, 1, 3, 2, 0, 0, 4, 4, 1, 1};
        for (int bits : turns) {
            Check.due("of the frame", x.palette(0, bits), due[bits]);
            Check.due("as get has it", x.get(0, 4), due[bits]);
            if (bits > 0) {
                Check.due("of the reel", x.palette(-1, bits), due[bits]);
                Check.due("as get has it", x.get(-1, 4), due[bits]);
            }
        }
    }

    private static void paletteOfNoFrame() {
        Check.says("Promise 2", "IndexOutOfBoundsException when there is no such frame");
        for (int f : NO_FRAME_OF_TWO) {
            Scene.refuses("palette of " + f, Scene::some, Scene.INDEX, x -> x.palette(f, 1));
            Scene.refuses("no palette of " + f, Scene::some, Scene.INDEX, x -> x.palette(f, 0));
        }
        Scene.refuses("no frame at all", Scene::bare, Scene.INDEX, x -> x.palette(0, 1));
        Scene.refuses("frame 4 of four", Scene::full, Scene.INDEX, x -> x.palette(4, 1));
        Check.due("frame 3 of four", Scene.full().palette(3, 1), 2);
    }

    private static void bitsOutOfRange() {
        Check.says("Promise 2", "IllegalArgumentException when bits is not 1 .. 4 (0 only for a frame)");
        int[] wrong = {LOWEST, -32, -1, 5, 6, 31, 32, 33, 34, HIGHEST};
        for (int bits : wrong) {
            Scene.refuses("bits " + bits, Scene::some, Scene.ARGUMENT, x -> x.palette(-1, bits));
            Scene.refuses("bits " + bits, Scene::some, Scene.ARGUMENT, x -> x.palette(1, bits));
        }
        Scene.refuses("0 for the reel", Scene::some, Scene.ARGUMENT, x -> x.palette(-1, 0));
        Scene.refuses("0 for a new one", Scene::bare, Scene.ARGUMENT, x -> x.palette(-1, 0));
        Check.due("0 for a frame", Scene.some().palette(0, 0), 0);
        Check.due("1 for a new one", Scene.bare().palette(-1, 1), 2);
        Check.due("4 for a new one", Scene.bare().palette(-1, 4), 16);
    }

    private static void pixelsThatForbidAPalette() {
        Check.says("Promise 2", "or a pixel ... would be none of its frame's palette.");
        for (int number = 1; number < 16; number++) {
            for (int bits = 1; bits <= 4; bits++) {
                boolean may = number < 1 << bits;
                Scene.Maker shared = reelWith(number, -1);
                paletteDue("the reel's", shared, -1, bits, may);
                paletteDue("one of its own instead of the reel's", shared, 0, bits, may);
                Scene.Maker own = frameWith(number, -1, bits);
                paletteDue("the reel's instead of its own", own, 0, 0, may);
                paletteDue("the reel's when it has its own", own, -1, 1, true);
            }
        }
        for (int place = 0; place < 64; place++) {
            PaletteReel x = new PaletteReel(1, 1);
            x.palette(-1, 2);
            x.frame(0, 0, 8, 8);
            x.pixel(0, place % 8, place / 8, 2);
            Check.noArgument("2 at place " + place, () -> x.palette(-1, 1));
            Check.noArgument("2 at place " + place, () -> x.palette(0, 1));
            x.pixel(0, place % 8, place / 8, 1);
            Check.due("1 at place " + place, x.palette(-1, 1), 2);
        }
    }

    private static void clearNumbersThatForbidAPalette() {
        Check.says("Promise 2", "or a ... clear number would be none of its frame's palette.");
        for (int clear = -1; clear < 16; clear++) {
            for (int bits = 1; bits <= 4; bits++) {
                boolean may = clear < 1 << bits;
                Scene.Maker shared = reelWith(0, clear);
                paletteDue("the reel's", shared, -1, bits, may);
                paletteDue("one of its own instead of the reel's", shared, 0, bits, may);
                Scene.Maker own = frameWith(0, clear, bits);
                paletteDue("the reel's instead of its own", own, 0, 0, may);
                paletteDue("the reel's when it has its own", own, -1, 1, true);
            }
        }
    }

    /** Of 16 colours that are the reel's, with these numbers in the frame. */
    private static Scene.Maker reelWith(int number, int clear) {
        return () -> {
            PaletteReel x = new PaletteReel(1, 1);
            x.palette(-1, 4);
            x.colour(-1, 1, 77);
            x.frame(0, 0, 3, 2);
            x.pixel(0, 2, 1, number);
            x.set(0, 0, 0, clear, false);
            return x;
        };
    }

    /** Of 16 colours that are the frame's own, the reel having others. */
    private static Scene.Maker frameWith(int number, int clear, int bitsOfTheReel) {
        return () -> {
            PaletteReel x = new PaletteReel(1, 1);
            x.palette(-1, bitsOfTheReel);
            x.frame(0, 0, 3, 2);
            x.palette(0, 4);
            x.colour(0, 1, 77);
            x.pixel(0, 2, 1, number);
            x.set(0, 0, 0, clear, false);
            return x;
        };
    }

    /** A frame that is gone forbids nothing, and each of four frames does. */
    private static void eachOfFourFrames() {
        Check.says("Promise 2", "a pixel or clear number would be none of its frame's palette");
        for (int f = 0; f < 4; f++) {
            PaletteReel x = new PaletteReel(1, 1);
            x.palette(-1, 2);
            for (int i = 0; i < 4; i++) {
                x.frame(0, 0, 1, 1);
            }
            x.pixel(f, 0, 0, 2);
            Check.noArgument("frame " + f, () -> x.palette(-1, 1));
            Check.due("nothing changed", x.get(-1, 4), 4);
            x.pixel(f, 0, 0, 0);
            x.set(f, 0, 0, 2, false);
            Check.noArgument("frame " + f, () -> x.palette(-1, 1));
            x.cut();
            x.frame(0, 0, 1, 1);
            Check.due("it is gone", x.palette(-1, 1), 2);
        }
    }

    private static void paletteDue(String what, Scene.Maker scene, int f, int bits, boolean may) {
        String told = what + ", bits " + bits;
        if (may) {
            Check.due(told, scene.make().palette(f, bits), bits == 0 ? 0 : 1 << bits);
        } else {
            Scene.refuses(told, scene, Scene.ARGUMENT, x -> x.palette(f, bits));
        }
    }

    // Promise 3

    private static void lowestBitsOfAColour() {
        Check.says("Promise 3", "Colour k of the palette that frame f has of its own"
            + " (or of the reel's with f = -1) becomes rgb (its lowest 24 bits).");
        int[] given = {0xFFFFFF, 0x1000000, 0x1000001, -1, LOWEST, HIGHEST, 0x7F123456, 0};
        int[] due = {0xFFFFFF, 0, 1, 0xFFFFFF, 0, 0xFFFFFF, 0x123456, 0};
        for (int i = 0; i < given.length; i++) {
            PaletteReel x = Scene.some();
            x.colour(-1, 3, given[i]);
            x.colour(1, 7, given[i]);
            Check.due("of the reel", x.colourAt(-1, 3), due[i]);
            Check.due("of the frame", x.colourAt(1, 7), due[i]);
            Check.due("the colour before stays", x.colourAt(-1, 2), 0x102032);
            Check.due("the colour before stays", x.colourAt(1, 6), 0xA0B0C6);
        }
    }

    private static void colourOfNoFrame() {
        Check.says("Promise 3", "IndexOutOfBoundsException when there is no such frame");
        for (int f : NO_FRAME_OF_TWO) {
            Scene.refuses("colour of " + f, Scene::some, Scene.INDEX, x -> x.colour(f, 0, 1));
        }
        Scene.refuses("no frame at all", Scene::bare, Scene.INDEX, x -> x.colour(0, 0, 1));
    }

    private static void noSuchColourOfItsOwn() {
        Check.says("Promise 3", "or no such colour of its own");
        int[] none = {LOWEST, -1, 16, HIGHEST};
        for (int k : none) {
            Scene.refuses("colour " + k, Scene::some, Scene.INDEX, x -> x.colour(-1, k, 1));
            Scene.refuses("colour " + k, Scene::some, Scene.INDEX, x -> x.colour(1, k, 1));
        }
        Scene.refuses("4 of the reel's 4", Scene::some, Scene.INDEX, x -> x.colour(-1, 4, 1));
        Scene.refuses("8 of its own 8", Scene::some, Scene.INDEX, x -> x.colour(1, 8, 1));
        Scene.refuses("0 of none of its own", Scene::some, Scene.INDEX, x -> x.colour(0, 0, 1));
    }

    // Promise 4

    private static void whatANewFrameIs() {
        Check.says("Promise 4", "A new frame, all its pixels 0, no palette of its own, disposal and delay 0,"
            + " no clear number, not woven: its number.");
        PaletteReel x = Scene.full();
        x.cut();
        for (int f = 0; f < 4; f++) {
            Check.due("its number", x.frame(f, 7 - f, 8, 2 * f + 1), f);
            int[] due = {f, 7 - f, 8, 2 * f + 1, 0, 0, 0, -1, 0};
            for (int what = 0; what <= 8; what++) {
                Check.due("what " + what, x.get(f, what), due[what]);
            }
            for (int i = 0; i < 8 * (2 * f + 1); i++) {
                Check.due("pixel " + i, x.pixelAt(f, i % 8, i / 8), 0);
            }
        }
    }

    private static void frameOutOfRange() {
        Check.says("Promise 4", "IllegalArgumentException when left or top is not 0 .. 7,"
            + " width or height not 1 .. 8");
        int[][] wrong = {{-1, 0, 1, 1}, {8, 0, 1, 1}, {0, -1, 1, 1}, {0, 8, 1, 1}, {0, 0, 0, 1}, {0, 0, 9, 1},
            {0, 0, 1, 0}, {0, 0, 1, 9}, {0, 0, -1, 1}, {0, 0, 1, -1}, {LOWEST, 0, 1, 1}, {0, HIGHEST, 1, 1},
            {0, 0, HIGHEST, 1}, {0, 0, 1, LOWEST}, {-1, -1, 0, 0}, {256, 0, 1, 1}, {0, 0, 257, 1}};
        for (int[] w : wrong) {
            Scene.refuses("frame", Scene::some, Scene.ARGUMENT, x -> x.frame(w[0], w[1], w[2], w[3]));
            Scene.refuses("frame", Scene::bare, Scene.ARGUMENT, x -> x.frame(w[0], w[1], w[2], w[3]));
        }
        int[][] right = {{0, 0, 1, 1}, {7, 7, 8, 8}, {7, 0, 1, 8}, {0, 7, 8, 1}};
        for (int[] r : right) {
            Check.due("the last that are taken", Scene.some().frame(r[0], r[1], r[2], r[3]), 2);
        }
    }

    private static void fifthFrame() {
        Check.says("Promise 4", "IllegalStateException when there are 4.");
        Scene.refuses("there are 4", Scene::full, Scene.STATE, x -> x.frame(0, 0, 1, 1));
        Scene.refuses("there are 4", Scene::full, Scene.STATE, x -> x.frame(7, 7, 8, 8));
        PaletteReel x = Scene.some();
        Check.due("there are 2", x.frame(0, 0, 1, 1), 2);
        Check.due("there are 3", x.frame(0, 0, 1, 1), 3);
        x.cut();
        Check.due("there are none again", x.frame(0, 0, 1, 1), 0);
    }

    // Promise 5

    private static void pixelBecomesANumber() {
        Check.says("Promise 5", "A pixel of a frame becomes a number.");
        PaletteReel x = new PaletteReel(1, 1);
        x.palette(-1, 4);
        x.frame(0, 0, 8, 8);
        x.frame(0, 0, 8, 8);
        int[][] corners = {{0, 0}, {7, 0}, {0, 7}, {7, 7}};
        for (int i = 0; i < 4; i++) {
            x.pixel(0, corners[i][0], corners[i][1], 12 + i);
        }
        Check.due("the corners alone", Check.pixels(x, 0), "c000000d/00000000/00000000/00000000"
            + "/00000000/00000000/00000000/e000000f");
        Check.due("no other frame", Check.pixels(x, 1).replaceAll("[0/]", ""), "");
    }

    private static void noSuchFrameOrPixel() {
        Check.says("Promise 5", "IndexOutOfBoundsException when there is no such frame or pixel");
        int[] frames = {LOWEST, -2, -1, 2, 3, HIGHEST};
        for (int f : frames) {
            Scene.refuses("pixel of " + f, Scene::some, Scene.INDEX, x -> x.pixel(f, 0, 0, 0));
        }
        int[][] places = {{-1, 0}, {3, 0}, {0, -1}, {0, 2}, {LOWEST, 0}, {HIGHEST, 0}, {0, LOWEST},
            {0, HIGHEST}, {-1, 1}, {8, 0}, {11, -1}, {-8, 1}};
        for (int[] p : places) {
            Scene.refuses("pixel", Scene::some, Scene.INDEX, x -> x.pixel(0, p[0], p[1], 0));
        }
        Scene.refuses("no frame at all", Scene::bare, Scene.INDEX, x -> x.pixel(0, 0, 0, 0));
    }

    private static void numberOfNoColour() {
        Check.says("Promise 5", "IllegalArgumentException when it is none of its palette.");
        int[] none = {LOWEST, -1, 16, 256, HIGHEST};
        for (int number : none) {
            Scene.refuses("number " + number, Scene::some, Scene.ARGUMENT, x -> x.pixel(0, 0, 0, number));
            Scene.refuses("number " + number, Scene::some, Scene.ARGUMENT, x -> x.pixel(1, 0, 0, number));
        }
        Scene.refuses("4 of the reel's 4", Scene::some, Scene.ARGUMENT, x -> x.pixel(0, 0, 0, 4));
        Scene.refuses("8 of its own 8", Scene::some, Scene.ARGUMENT, x -> x.pixel(1, 0, 0, 8));
        PaletteReel y = Scene.some();
        y.pixel(0, 1, 1, 3);
        y.pixel(1, 1, 1, 7);
        Check.due("3 of 4", y.pixelAt(0, 1, 1), 3);
        Check.due("7 of 8", y.pixelAt(1, 1, 1), 7);
    }

    // Promise 6

    private static void settingsAreTaken() {
        Check.says("Promise 6", "A frame gets disposal, delay, clear number (-1 for none), and is woven or not.");
        PaletteReel x = Scene.some();
        int[][] given = {{0, 0, -1, 0}, {3, 255, 7, 1}, {1, 254, 0, 0}, {2, 1, 6, 1}, {0, 0, -1, 0}};
        for (int[] g : given) {
            x.set(1, g[0], g[1], g[2], g[3] == 1);
            for (int i = 0; i < 4; i++) {
                Check.due("what " + (5 + i), x.get(1, 5 + i), g[i]);
            }
        }
        int[] other = {1, 9, 2, 1};
        for (int i = 0; i < 4; i++) {
            Check.due("another frame's " + (5 + i), x.get(0, 5 + i), other[i]);
        }
    }

    private static void settingsOfNoFrame() {
        Check.says("Promise 6", "IndexOutOfBoundsException when there is no such frame");
        int[] frames = {LOWEST, -2, -1, 2, 3, HIGHEST};
        for (int f : frames) {
            Scene.refuses("set of " + f, Scene::some, Scene.INDEX, x -> x.set(f, 0, 0, -1, false));
        }
        Scene.refuses("no frame at all", Scene::bare, Scene.INDEX, x -> x.set(0, 0, 0, -1, false));
        Scene.refuses("frame 4 of four", Scene::full, Scene.INDEX, x -> x.set(4, 0, 0, -1, false));
    }

    private static void settingsOutOfRange() {
        Check.says("Promise 6", "IllegalArgumentException when one is not in its range.");
        int[][] wrong = {{-1, 0, -1}, {4, 0, -1}, {16, 0, -1}, {LOWEST, 0, -1}, {HIGHEST, 0, -1}, {0, -1, -1},
            {0, 256, -1}, {0, LOWEST, -1}, {0, HIGHEST, -1}, {0, 0, -2}, {0, 0, LOWEST}, {0, 0, HIGHEST},
            {0, 0, 16}, {4, 256, 99}};
        for (int[] w : wrong) {
            Scene.refuses("set", Scene::some, Scene.ARGUMENT, x -> x.set(0, w[0], w[1], w[2], false));
            Scene.refuses("set", Scene::some, Scene.ARGUMENT, x -> x.set(1, w[0], w[1], w[2], true));
        }
        Scene.refuses("clear 4 of 4", Scene::some, Scene.ARGUMENT, x -> x.set(0, 0, 0, 4, false));
        Scene.refuses("clear 8 of 8", Scene::some, Scene.ARGUMENT, x -> x.set(1, 0, 0, 8, false));
        Check.fine("clear 3 of 4", () -> Scene.some().set(0, 3, 255, 3, false));
        Check.fine("clear 7 of 8", () -> Scene.some().set(1, 0, 0, 7, false));
    }

    // Promises 7 and 8

    private static void cutNoneAndFour() {
        Check.says("Promise 7", "All frames are taken away: how many there were.");
        Scene.keeps("none to cut", Scene::bare, 0, x -> x.cut());
        for (int n = 1; n <= 4; n++) {
            PaletteReel x = new PaletteReel(1, 1);
            for (int f = 0; f < n; f++) {
                x.frame(0, 0, 1, 1);
            }
            Check.due("to cut", x.cut(), n);
            Check.due("left", x.frames(), 0);
            Check.noIndex("no frame 0", () -> x.get(0, 0));
            Check.noArgument("none to draw", () -> x.draw(1));
            Check.due("none to cut again", x.cut(), 0);
        }
        PaletteReel y = Scene.some();
        y.cut();
        Check.due("the reel's palette stays", y.colourAt(-1, 3), 0x102033);
        Check.due("the canvas stays", Check.canvas(y), Check.canvas(Scene.some()));
        Check.due("the bytes stay", Check.bytes(y), Check.bytes(Scene.some()));
    }

    private static void countOfFrames() {
        Check.says("Promise 8", "How many frames there are.");
        Scene.keeps("none", Scene::bare, 0, x -> x.frames());
        Scene.keeps("two", Scene::some, 2, x -> x.frames());
        Scene.keeps("four", Scene::full, 4, x -> x.frames());
    }

    // Promise 9

    private static void whatIsAskedOfAFrame() {
        Check.says("Promise 9", "Of a frame, for what = 0 left, 1 top, 2 width, 3 height, 4 how many colours"
            + " it has of its own (0 for none), 5 disposal, 6 delay, 7 the clear number or -1,"
            + " 8 whether it is woven (1 or 0)");
        int[][] due = {{1, 1, 3, 2, 0, 1, 9, 2, 1}, {0, 0, 2, 3, 8, 3, 200, 5, 0}, {7, 7, 1, 1, 0, 0, 0, -1, 0},
            {2, 0, 1, 2, 2, 0, 0, -1, 0}};
        for (int f = 0; f < 4; f++) {
            for (int what = 0; what <= 8; what++) {
                int number = f;
                int asked = what;
                Scene.keeps("get(" + f + ", " + what + ")", Scene::full, due[f][what], x -> x.get(number, asked));
            }
        }
    }

    private static void whatIsAskedOfTheReel() {
        Check.says("Promise 9", "of the reel (f = -1) width, height (2, 3), and its colours (4), otherwise 0");
        int[] due = {0, 0, 3, 2, 4, 0, 0, 0, 0};
        for (int what = 0; what <= 8; what++) {
            int asked = what;
            Scene.keeps("get(-1, " + what + ")", Scene::some, due[what], x -> x.get(-1, asked));
        }
    }

    private static void noSuchWhat() {
        Check.says("Promise 9", "IndexOutOfBoundsException when there is no such frame or what.");
        int[] whats = {LOWEST, -1, 9, HIGHEST};
        for (int what : whats) {
            for (int f = -1; f <= 1; f++) {
                int number = f;
                Scene.refuses("get(" + f + ", " + what + ")", Scene::some, Scene.INDEX, x -> x.get(number, what));
            }
        }
        for (int f : NO_FRAME_OF_TWO) {
            Scene.refuses("get of " + f, Scene::some, Scene.INDEX, x -> x.get(f, 2));
        }
        Scene.refuses("no frame at all", Scene::bare, Scene.INDEX, x -> x.get(0, 0));
        Scene.refuses("frame 4 of four", Scene::full, Scene.INDEX, x -> x.get(4, 0));
    }

    // Promises 10 and 11

    private static void colourOfAPalette() {
        Check.says("Promise 10", "Colour k of the palette of a frame (its own or the reel's),"
            + " or of the reel's with f = -1.");
        Scene.keeps("the reel's first", Scene::some, 0x102030, x -> x.colourAt(-1, 0));
        Scene.keeps("the reel's last", Scene::some, 0x102033, x -> x.colourAt(-1, 3));
        Scene.keeps("the reel's last, of a frame", Scene::some, 0x102033, x -> x.colourAt(0, 3));
        Scene.keeps("its own first", Scene::some, 0xA0B0C0, x -> x.colourAt(1, 0));
        Scene.keeps("its own last", Scene::some, 0xA0B0C7, x -> x.colourAt(1, 7));
    }

    private static void noSuchColour() {
        Check.says("Promise 10", "IndexOutOfBoundsException when there is no such frame or colour.");
        int[] none = {LOWEST, -1, 16, HIGHEST};
        for (int k : none) {
            for (int f = -1; f <= 1; f++) {
                int number = f;
                Scene.refuses("colour " + k, Scene::some, Scene.INDEX, x -> x.colourAt(number, k));
            }
        }
        Scene.refuses("4 of the reel's 4", Scene::some, Scene.INDEX, x -> x.colourAt(-1, 4));
        Scene.refuses("4 of the reel's 4, of a frame", Scene::some, Scene.INDEX, x -> x.colourAt(0, 4));
        Scene.refuses("8 of its own 8", Scene::some, Scene.INDEX, x -> x.colourAt(1, 8));
        Scene.refuses("2 of a new reel", Scene::bare, Scene.INDEX, x -> x.colourAt(-1, 2));
        for (int f : NO_FRAME_OF_TWO) {
            Scene.refuses("colour of " + f, Scene::some, Scene.INDEX, x -> x.colourAt(f, 0));
        }
    }

    private static void pixelOfAFrame() {
        Check.says("Promise 11", "A pixel of a frame.");
        Scene.keeps("the first", Scene::some, 3, x -> x.pixelAt(0, 0, 0));
        Scene.keeps("the last", Scene::some, 1, x -> x.pixelAt(0, 2, 1));
        Scene.keeps("the first of another", Scene::some, 4, x -> x.pixelAt(1, 0, 0));
        Scene.keeps("the last of another", Scene::some, 7, x -> x.pixelAt(1, 1, 2));
        Scene.keeps("one that nobody gave a number", Scene::some, 0, x -> x.pixelAt(1, 1, 1));
    }

    private static void noSuchPixel() {
        Check.says("Promise 11", "IndexOutOfBoundsException when there is none such.");
        int[] frames = {LOWEST, -2, -1, 2, 3, HIGHEST};
        for (int f : frames) {
            Scene.refuses("pixel of " + f, Scene::some, Scene.INDEX, x -> x.pixelAt(f, 0, 0));
        }
        int[][] places = {{-1, 0}, {3, 0}, {0, -1}, {0, 2}, {LOWEST, 0}, {HIGHEST, 0}, {0, LOWEST},
            {0, HIGHEST}, {-1, 1}, {8, 0}, {11, -1}, {-8, 1}};
        for (int[] p : places) {
            Scene.refuses("pixel", Scene::some, Scene.INDEX, x -> x.pixelAt(0, p[0], p[1]));
        }
        Scene.refuses("below the other", Scene::some, Scene.INDEX, x -> x.pixelAt(1, 0, 3));
        Scene.refuses("right of the other", Scene::some, Scene.INDEX, x -> x.pixelAt(1, 2, 0));
        Scene.refuses("no frame at all", Scene::bare, Scene.INDEX, x -> x.pixelAt(0, 0, 0));
    }
}
