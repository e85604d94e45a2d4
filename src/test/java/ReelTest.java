/** Promises 1 to 11: the reel, its palettes, its frames and their pixels. */
public final class ReelTest {
    private ReelTest() {
    }

    public static void main(String[] args) {
        newObject();
        newObjectBeyondItsSizes();
        paletteOfTheReel();
        paletteOfAFrame();
        palettesThatNumbersForbid();
        paletteWrongly();
        colour();
        frame();
        frameAnew();
        pixel();
        set();
        cutAndFrames();
        get();
        colourAt();
        pixelAt();
        Check.end();
    }

    private static void newObject() {
        PaletteReel x = new PaletteReel(3, 2);
        Check.due("NONE", PaletteReel.NONE, -1);
        Check.due("a new object", Check.state(x), " [-1: 0 0 3 2 2 0 0 0 0 0 0 ] shown - - -/- - - bytes ");
        Check.due("no byte 0", x.byteAt(0), -1);
        Check.due("no frames", x.frames(), 0);
        Check.due("one box, as the picture is all 0", x.reduce(16, 0), 1);
        Check.due("the picture's colour", x.colourAt(0, 0), 0);
        Check.due("its pixels", Check.pixels(x, 0), "000/000");
    }

    private static void newObjectBeyondItsSizes() {
        int[] asked = {Integer.MIN_VALUE, -1, 0, 1, 2, 7, 8, 9, Integer.MAX_VALUE};
        int[] due = {1, 1, 1, 1, 2, 7, 8, 8, 8};
        for (int i = 0; i < asked.length; i++) {
            for (int k = 0; k < asked.length; k++) {
                PaletteReel x = new PaletteReel(asked[i], asked[k]);
                Check.due("width of " + asked[i], x.get(-1, 2), due[i]);
                Check.due("height of " + asked[k], x.get(-1, 3), due[k]);
                Check.fine("its last place", () -> x.shown(x.get(-1, 2) - 1, x.get(-1, 3) - 1));
                Check.noIndex("beyond its width", () -> x.shown(x.get(-1, 2), 0));
                Check.noIndex("beyond its height", () -> x.shown(0, x.get(-1, 3)));
            }
        }
    }

    private static void paletteOfTheReel() {
        PaletteReel x = new PaletteReel(2, 2);
        for (int bits = 1; bits <= 4; bits++) {
            Check.due("palette(-1, " + bits + ")", x.palette(-1, bits), 1 << bits);
            Check.due("get(-1, 4)", x.get(-1, 4), 1 << bits);
            Check.due("its new last colour", x.colourAt(-1, (1 << bits) - 1), 0);
            for (int k = 0; k < 1 << bits; k++) {
                x.colour(-1, k, 100 + k);
            }
        }
        Check.due("fewer colours", x.palette(-1, 2), 4);
        Check.due("the last that stayed", x.colourAt(-1, 3), 103);
        Check.noIndex("the first that is gone", () -> x.colourAt(-1, 4));
        Check.due("more colours again", x.palette(-1, 3), 8);
        Check.due("what was there stays", x.colourAt(-1, 3), 103);
        for (int k = 4; k < 8; k++) {
            Check.due("what was gone is 0", x.colourAt(-1, k), 0);
        }
        Check.due("as many as there are", x.palette(-1, 3), 8);
        Check.due("nothing changed", x.colourAt(-1, 2), 102);
    }

    private static void paletteOfAFrame() {
        PaletteReel x = new PaletteReel(2, 2);
        x.colour(-1, 1, 55);
        x.frame(0, 0, 2, 2);
        x.frame(0, 0, 2, 2);
        Check.due("none of its own stays none", x.palette(0, 0), 0);
        Check.due("palette(0, 1)", x.palette(0, 1), 2);
        Check.due("the reel's colours are not taken over", x.colourAt(0, 1), 0);
        Check.due("the reel's stay", x.colourAt(-1, 1), 55);
        Check.due("the other frame has none", x.get(1, 4), 0);
        x.colour(0, 1, 77);
        Check.due("palette(0, 4)", x.palette(0, 4), 16);
        Check.due("the colour stays", x.colourAt(0, 1), 77);
        x.colour(0, 15, 78);
        Check.due("palette(0, 0)", x.palette(0, 0), 0);
        Check.due("none of its own", x.get(0, 4), 0);
        Check.due("the reel's is its palette", x.colourAt(0, 1), 55);
        Check.due("palette(0, 4) again", x.palette(0, 4), 16);
        Check.due("colours of a palette that is gone are gone", x.colourAt(0, 1), 0);
        Check.due("the last one, too", x.colourAt(0, 15), 0);
    }

    private static void palettesThatNumbersForbid() {
        PaletteReel x = new PaletteReel(2, 2);
        x.palette(-1, 3);
        x.frame(0, 0, 8, 8);
        x.pixel(0, 7, 7, 4);
        Check.noArgument("a pixel would be none of the reel's", () -> x.palette(-1, 2));
        Check.due("nothing changed", x.get(-1, 4), 8);
        Check.noArgument("a pixel would be none of its own", () -> x.palette(0, 2));
        Check.due("none of its own is there", x.get(0, 4), 0);
        Check.due("its own, large enough", x.palette(0, 3), 8);
        Check.due("now the reel's may be small", x.palette(-1, 1), 2);
        Check.noArgument("but then it can not go back", () -> x.palette(0, 0));
        Check.due("nothing changed", x.get(0, 4), 8);
        x.pixel(0, 7, 7, 1);
        Check.due("with a small number it can", x.palette(0, 0), 0);

        PaletteReel y = new PaletteReel(2, 2);
        y.palette(-1, 2);
        y.frame(0, 0, 1, 1);
        y.frame(0, 0, 1, 1);
        y.set(1, 0, 0, 2, false);
        Check.noArgument("a clear number would be none of the reel's", () -> y.palette(-1, 1));
        Check.noArgument("a clear number would be none of its own", () -> y.palette(1, 1));
        y.palette(1, 2);
        Check.due("the reel's is not its palette", y.palette(-1, 1), 2);
        Check.noArgument("a clear number would be none of the reel's", () -> y.palette(1, 0));
        y.set(1, 0, 0, 1, false);
        Check.due("1 is one of two", y.palette(1, 1), 2);
        y.pixel(0, 0, 0, 1);
        y.cut();
        Check.due("frames that are gone forbid nothing", y.palette(-1, 1), 2);
    }

    private static void paletteWrongly() {
        PaletteReel x = new PaletteReel(2, 2);
        Check.noArgument("bits 0 for the reel", () -> x.palette(-1, 0));
        Check.noArgument("bits -1 for the reel", () -> x.palette(-1, -1));
        Check.noArgument("bits 5 for the reel", () -> x.palette(-1, 5));
        Check.noArgument("bits 32 for the reel", () -> x.palette(-1, 32));
        Check.noIndex("no frame 0", () -> x.palette(0, 1));
        Check.noIndex("no frame -2", () -> x.palette(-2, 1));
        Check.noIndex("the frame is looked at first", () -> x.palette(0, 9));
        x.frame(0, 0, 1, 1);
        Check.noArgument("bits -1 for a frame", () -> x.palette(0, -1));
        Check.noArgument("bits 5 for a frame", () -> x.palette(0, 5));
        Check.noIndex("no frame 1", () -> x.palette(1, 1));
        Check.noIndex("no such frame at all", () -> x.palette(Integer.MAX_VALUE, 1));
        Check.due("nothing changed", x.get(-1, 4), 2);
    }

    private static void colour() {
        PaletteReel x = new PaletteReel(2, 2);
        x.colour(-1, 0, 0xFFFFFF);
        x.colour(-1, 1, 0x12345678);
        Check.due("a colour", x.colourAt(-1, 0), 0xFFFFFF);
        Check.due("its lowest 24 bits", x.colourAt(-1, 1), 0x345678);
        x.colour(-1, 1, -1);
        Check.due("those of -1", x.colourAt(-1, 1), 0xFFFFFF);
        Check.noIndex("no colour 2", () -> x.colour(-1, 2, 1));
        Check.noIndex("no colour -1", () -> x.colour(-1, -1, 1));
        Check.noIndex("no frame 0", () -> x.colour(0, 0, 1));
        Check.noIndex("no frame -2", () -> x.colour(-2, 0, 1));
        x.frame(0, 0, 1, 1);
        Check.noIndex("none of its own", () -> x.colour(0, 0, 1));
        x.palette(0, 2);
        x.colour(0, 3, 9);
        Check.due("its own", x.colourAt(0, 3), 9);
        Check.noIndex("no colour 4 of its own", () -> x.colour(0, 4, 1));
        x.colour(0, 0, 11);
        Check.due("not the reel's", x.colourAt(-1, 0), 0xFFFFFF);
        Check.noIndex("no frame 1", () -> x.colour(1, 0, 1));
    }

    private static void frame() {
        PaletteReel x = new PaletteReel(2, 2);
        Check.due("frame 0", x.frame(0, 0, 1, 1), 0);
        Check.due("frame 1", x.frame(7, 7, 8, 8), 1);
        Check.due("frame 2", x.frame(1, 2, 3, 4), 2);
        int[][] wrong = {{-1, 0, 1, 1}, {8, 0, 1, 1}, {0, -1, 1, 1}, {0, 8, 1, 1},
            {0, 0, 0, 1}, {0, 0, 9, 1}, {0, 0, 1, 0}, {0, 0, 1, 9}, {0, 0, -1, 1}};
        for (int[] w : wrong) {
            Check.noArgument("a wrong rectangle", () -> x.frame(w[0], w[1], w[2], w[3]));
        }
        Check.due("nothing came", x.frames(), 3);
        Check.due("frame 3", x.frame(0, 7, 8, 1), 3);
        Check.noState("there are 4", () -> x.frame(0, 0, 1, 1));
        Check.noArgument("arguments are looked at first", () -> x.frame(8, 0, 1, 1));
        Check.due("4 frames", x.frames(), 4);
        Check.due("what they are", Check.reelState(x),
            " [-1: 0 0 2 2 2 0 0 0 0 0 0 ]"
            + " [0: 0 0 1 1 0 0 0 -1 0 0 0 0]"
            + " [1: 7 7 8 8 0 0 0 -1 0 0 0 00000000/00000000/00000000/00000000"
            + "/00000000/00000000/00000000/00000000]"
            + " [2: 1 2 3 4 0 0 0 -1 0 0 0 000/000/000/000]"
            + " [3: 0 7 8 1 0 0 0 -1 0 0 0 00000000]");
    }

    private static void frameAnew() {
        PaletteReel x = new PaletteReel(2, 2);
        x.frame(1, 1, 2, 2);
        x.palette(0, 4);
        x.colour(0, 9, 9);
        x.pixel(0, 1, 1, 9);
        x.set(0, 3, 44, 5, true);
        x.cut();
        x.frame(0, 0, 2, 2);
        Check.due("nothing is left of the old one", Check.reelState(x),
            " [-1: 0 0 2 2 2 0 0 0 0 0 0 ] [0: 0 0 2 2 0 0 0 -1 0 0 0 00/00]");
        x.palette(0, 4);
        Check.due("nor of its colours", x.colourAt(0, 9), 0);
    }

    private static void pixel() {
        PaletteReel x = new PaletteReel(1, 1);
        x.frame(0, 0, 3, 2);
        x.pixel(0, 2, 0, 1);
        x.pixel(0, 0, 1, 1);
        Check.due("pixels, though beyond the reel", Check.pixels(x, 0), "001/100");
        x.pixel(0, 2, 0, 0);
        Check.due("one goes back", Check.pixels(x, 0), "000/100");
        Check.noIndex("no frame 1", () -> x.pixel(1, 0, 0, 0));
        Check.noIndex("no frame -1", () -> x.pixel(-1, 0, 0, 0));
        Check.noIndex("no x 3", () -> x.pixel(0, 3, 0, 0));
        Check.noIndex("no x -1", () -> x.pixel(0, -1, 1, 0));
        Check.noIndex("no y 2", () -> x.pixel(0, 0, 2, 0));
        Check.noIndex("no y -1", () -> x.pixel(0, 0, -1, 0));
        Check.noIndex("the place is looked at first", () -> x.pixel(0, 3, 0, 99));
        Check.noArgument("no number 2", () -> x.pixel(0, 0, 0, 2));
        Check.noArgument("no number -1", () -> x.pixel(0, 0, 0, -1));
        x.palette(0, 2);
        Check.fine("3 is one of its own", () -> x.pixel(0, 0, 0, 3));
        Check.noArgument("4 is none", () -> x.pixel(0, 0, 0, 4));
        x.palette(-1, 4);
        Check.noArgument("though it is one of the reel's", () -> x.pixel(0, 0, 0, 4));
        Check.due("what is there", Check.pixels(x, 0), "300/100");
    }

    private static void set() {
        PaletteReel x = new PaletteReel(1, 1);
        x.frame(0, 0, 1, 1);
        x.frame(0, 0, 1, 1);
        x.set(1, 3, 255, 1, true);
        Check.due("set", Check.reelState(x), " [-1: 0 0 1 1 2 0 0 0 0 0 0 ]"
            + " [0: 0 0 1 1 0 0 0 -1 0 0 0 0] [1: 0 0 1 1 0 3 255 1 1 0 0 0]");
        Check.noArgument("disposal 4", () -> x.set(1, 4, 0, -1, false));
        Check.noArgument("disposal -1", () -> x.set(1, -1, 0, -1, false));
        Check.noArgument("delay 256", () -> x.set(1, 0, 256, -1, false));
        Check.noArgument("delay -1", () -> x.set(1, 0, -1, -1, false));
        Check.noArgument("clear 2", () -> x.set(1, 0, 0, 2, false));
        Check.noArgument("clear -2", () -> x.set(1, 0, 0, -2, false));
        Check.noIndex("no frame 2", () -> x.set(2, 0, 0, -1, false));
        Check.noIndex("no frame -1", () -> x.set(-1, 0, 0, -1, false));
        Check.noIndex("the frame is looked at first", () -> x.set(2, 9, 0, -1, false));
        Check.due("nothing changed", x.get(1, 5) * 1000 + x.get(1, 6), 3255);
        x.palette(1, 3);
        x.set(1, 0, 0, 7, false);
        Check.due("a clear number of its own palette", x.get(1, 7), 7);
        Check.noArgument("8 is none", () -> x.set(1, 0, 0, 8, false));
        x.set(1, 2, 9, -1, false);
        Check.due("none again", x.get(1, 7), -1);
        Check.due("not woven again", x.get(1, 8), 0);
        Check.due("disposal", x.get(1, 5), 2);
        Check.due("delay", x.get(1, 6), 9);
    }

    private static void cutAndFrames() {
        PaletteReel x = new PaletteReel(1, 1);
        Check.due("none to cut", x.cut(), 0);
        for (int f = 0; f < 4; f++) {
            Check.due("frames", x.frames(), f);
            x.frame(0, 0, 1, 1);
        }
        Check.due("4 to cut", x.cut(), 4);
        Check.due("none are left", x.frames(), 0);
        Check.due("none to cut again", x.cut(), 0);
        Check.noIndex("no frame 0", () -> x.get(0, 0));
        Check.due("it begins with 0 again", x.frame(0, 0, 1, 1), 0);
    }

    private static void get() {
        PaletteReel x = new PaletteReel(5, 6);
        x.palette(-1, 3);
        x.frame(1, 2, 3, 4);
        x.palette(0, 4);
        x.set(0, 3, 200, 6, true);
        int[] reel = {0, 0, 5, 6, 8, 0, 0, 0, 0};
        int[] frame = {1, 2, 3, 4, 16, 3, 200, 6, 1};
        for (int what = 0; what <= 8; what++) {
            Check.due("get(-1, " + what + ")", x.get(-1, what), reel[what]);
            Check.due("get(0, " + what + ")", x.get(0, what), frame[what]);
        }
        for (int f = -1; f <= 0; f++) {
            int owner = f;
            Check.noIndex("no what 9", () -> x.get(owner, 9));
            Check.noIndex("no what -1", () -> x.get(owner, -1));
        }
        Check.noIndex("no frame 1", () -> x.get(1, 0));
        Check.noIndex("no frame -2", () -> x.get(-2, 2));
    }

    private static void colourAt() {
        PaletteReel x = new PaletteReel(1, 1);
        x.palette(-1, 2);
        x.colour(-1, 3, 33);
        x.frame(0, 0, 1, 1);
        Check.due("of the reel", x.colourAt(-1, 3), 33);
        Check.due("of a frame that has none of its own", x.colourAt(0, 3), 33);
        Check.noIndex("no colour 4", () -> x.colourAt(-1, 4));
        Check.noIndex("no colour 4 for the frame", () -> x.colourAt(0, 4));
        Check.noIndex("no colour -1", () -> x.colourAt(-1, -1));
        x.palette(0, 1);
        x.colour(0, 1, 44);
        Check.due("its own", x.colourAt(0, 1), 44);
        Check.noIndex("no colour 2 of its own", () -> x.colourAt(0, 2));
        Check.noIndex("no frame 1", () -> x.colourAt(1, 0));
        Check.noIndex("no frame -2", () -> x.colourAt(-2, 0));
    }

    private static void pixelAt() {
        PaletteReel x = new PaletteReel(1, 1);
        x.frame(0, 0, 8, 2);
        x.frame(0, 0, 2, 8);
        x.pixel(0, 7, 1, 1);
        x.pixel(1, 1, 7, 1);
        Check.due("of frame 0", x.pixelAt(0, 7, 1), 1);
        Check.due("of frame 1", x.pixelAt(1, 1, 7), 1);
        Check.due("another one", x.pixelAt(0, 6, 1), 0);
        Check.noIndex("no x 8", () -> x.pixelAt(0, 8, 0));
        Check.noIndex("no y 2", () -> x.pixelAt(0, 0, 2));
        Check.noIndex("no x 2", () -> x.pixelAt(1, 2, 0));
        Check.noIndex("no y 8", () -> x.pixelAt(1, 0, 8));
        Check.noIndex("no x -1", () -> x.pixelAt(1, -1, 1));
        Check.noIndex("no y -1", () -> x.pixelAt(1, 1, -1));
        Check.noIndex("no frame 2", () -> x.pixelAt(2, 0, 0));
        Check.noIndex("no frame -1", () -> x.pixelAt(-1, 0, 0));
    }
}
