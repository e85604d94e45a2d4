/** Promises 20 and 21: the picture, its boxes, their colours, and the three modes. */
public final class ReduceTest {
    private ReduceTest() {
    }

    public static void main(String[] args) {
        paint();
        newFrame();
        wrongly();
        means();
        halves();
        partsInOrder();
        tiesInOrder();
        greatestSpread();
        sizesOfPalettes();
        sameColours();
        pattern();
        patternAbove();
        errorsInARow();
        errorsInTwoRows();
        errorsBelow();
        patternKeepsInRange();
        Check.end();
    }

    /** A reel whose picture has these colours, row by row. */
    private static PaletteReel painted(int width, int height, int... colours) {
        PaletteReel x = new PaletteReel(width, height);
        for (int i = 0; i < colours.length; i++) {
            x.paint(i % width, i / width, colours[i]);
        }
        return x;
    }

    private static int grey(int value) {
        return value * 0x010101;
    }

    private static PaletteReel greys(int width, int height, int... values) {
        int[] colours = new int[values.length];
        for (int i = 0; i < values.length; i++) {
            colours[i] = grey(values[i]);
        }
        return painted(width, height, colours);
    }

    private static String colours(PaletteReel reel, int f) {
        StringBuilder text = new StringBuilder();
        for (int k = 0; k < reel.get(f, 4); k++) {
            text.append(k == 0 ? "" : " ").append(Integer.toHexString(reel.colourAt(f, k)));
        }
        return text.toString();
    }

    private static void reduced(PaletteReel x, int n, int mode, int boxes, String colours, String pixels) {
        x.cut();
        String what = "reduce(" + n + ", " + mode + ")";
        Check.due(what, x.reduce(n, mode), boxes);
        Check.due(what + ": its colours", colours(x, 0), colours);
        Check.due(what + ": its pixels", Check.pixels(x, 0), pixels);
    }

    private static void paint() {
        PaletteReel x = new PaletteReel(3, 2);
        x.paint(0, 0, 0x12345678);
        x.paint(2, 1, -1);
        x.paint(1, 0, 9);
        x.paint(1, 0, 0);
        reduced(x, 16, 0, 3, "0 345678 ffffff 0", "100/002");
        Check.noIndex("no x 3", () -> x.paint(3, 0, 0));
        Check.noIndex("no x -1", () -> x.paint(-1, 1, 0));
        Check.noIndex("no y 2", () -> x.paint(0, 2, 0));
        Check.noIndex("no y -1", () -> x.paint(0, -1, 0));
        reduced(x, 16, 0, 3, "0 345678 ffffff 0", "100/002");
        Check.due("the canvas is another thing", Check.canvas(x), "- - -/- - -");
    }

    private static void newFrame() {
        PaletteReel x = painted(2, 1, 1, 2);
        x.palette(-1, 3);
        x.colour(-1, 5, 55);
        x.frame(3, 3, 3, 3);
        Check.due("two boxes", x.reduce(2, 1), 2);
        Check.due("the reel then", Check.reelState(x), " [-1: 0 0 2 1 8 0 0 0 0 0 0 0 0 0 37 0 0 ]"
            + " [0: 3 3 3 3 0 0 0 -1 0 0 0 0 0 0 37 0 0 000/000/000] [1: 0 0 2 1 2 0 0 -1 0 1 2 01]");
        Check.due("no bytes came", x.byteAt(0), -1);
        Check.due("it is drawn as others", x.draw(2), 2);
        Check.due("the canvas", Check.canvas(x), "1 2");
        x.cut();
        x.frame(0, 0, 8, 8);
        x.palette(0, 4);
        x.colour(0, 3, 3);
        x.set(0, 3, 99, 15, true);
        x.cut();
        reduced(x, 3, 0, 2, "1 2", "01");
        Check.due("nothing is left of another frame", Check.reelState(x), " [-1: 0 0 2 1 8 0 0 0 0 0 0 0 0 0 37 0 0 ]"
            + " [0: 0 0 2 1 2 0 0 -1 0 1 2 01]");
    }

    private static void wrongly() {
        PaletteReel x = new PaletteReel(2, 2);
        int[][] wrong = {{0, 0}, {17, 0}, {-1, 0}, {1, -1}, {1, 3}, {Integer.MAX_VALUE, 1}};
        for (int[] w : wrong) {
            Check.noArgument("a wrong argument", () -> x.reduce(w[0], w[1]));
        }
        Check.due("no frame came", x.frames(), 0);
        for (int f = 0; f < 4; f++) {
            Check.due("one box", x.reduce(f == 0 ? 1 : 16, f % 3), 1);
        }
        Check.noState("there are 4", () -> x.reduce(1, 0));
        for (int[] w : wrong) {
            Check.noArgument("arguments are looked at first", () -> x.reduce(w[0], w[1]));
        }
        Check.due("4 frames", x.frames(), 4);
    }

    private static void means() {
        reduced(painted(3, 1, 1, 1, 2), 1, 0, 1, "1 0", "000");
        reduced(painted(3, 1, 0x0000FF, 0x00FF00, 0xFF0000), 1, 2, 1, "555555 0", "000");
        reduced(painted(2, 2, 0x010203, 0x020304, 0x030405, 0x040507), 1, 0, 1, "20304 0", "00/00");
        reduced(painted(2, 1, 0xFFFFFF, 0), 1, 1, 1, "7f7f7f 0", "00");
    }

    private static void halves() {
        PaletteReel x = painted(4, 1, 1, 2, 3, 4);
        reduced(x, 2, 0, 2, "1 3", "0011");
        reduced(x, 3, 0, 3, "1 3 2 0", "0211");
        reduced(x, 4, 0, 4, "1 3 2 4", "0213");
        reduced(x, 9, 0, 4, "1 3 2 4", "0213");
        reduced(painted(5, 1, 9, 9, 1, 9, 9), 2, 0, 2, "1 9", "11011");
        reduced(painted(5, 1, 1, 1, 9, 1, 1), 2, 0, 2, "1 9", "00100");
        reduced(painted(6, 1, 1, 2, 9, 9, 9, 9), 2, 0, 2, "1 9", "001111");
        reduced(painted(6, 1, 1, 1, 1, 1, 2, 9), 2, 0, 2, "1 5", "000001");
        reduced(painted(4, 1, 1, 1, 2, 9), 2, 0, 2, "1 5", "0001");
        reduced(painted(5, 1, 1, 1, 2, 2, 9), 2, 0, 2, "1 9", "00001");
    }

    private static void partsInOrder() {
        reduced(painted(2, 1, 0x0A0000, 0x000A00), 2, 0, 2, "a00 a0000", "10");
        reduced(painted(2, 1, 0x000A00, 0x00000A), 2, 0, 2, "a a00", "10");
        reduced(painted(2, 1, 0x00000A, 0x0A0000), 2, 0, 2, "a a0000", "01");
        reduced(painted(2, 1, 0x00000B, 0x0A0000), 2, 0, 2, "a0000 b", "10");
        reduced(painted(2, 1, 0x000B00, 0x0A0000), 2, 0, 2, "a0000 b00", "10");
        reduced(painted(2, 1, 0x00000B, 0x000A00), 2, 0, 2, "a00 b", "10");
    }

    private static void tiesInOrder() {
        reduced(painted(5, 1, 0x640000, 0x000100, 1, 1, 1), 2, 0, 2, "1 320000", "10000");
        reduced(painted(5, 1, 1, 0x640000, 0x000100, 0x000100, 0x000100), 2, 0, 2, "0 640000", "01000");
    }

    private static void greatestSpread() {
        PaletteReel x = painted(4, 1, 0, 1, 100, 150);
        reduced(x, 3, 0, 3, "0 64 96 0", "0012");
        PaletteReel y = painted(6, 1, 0, 0x10, 0x1000, 0xF00000, 0xF00010, 0xF02000);
        reduced(y, 2, 0, 2, "505 f00a05", "000111");
        reduced(y, 3, 0, 3, "505 f00008 f02000 0", "000112");
        reduced(y, 4, 0, 4, "8 f00008 f02000 1000", "003112");
    }

    private static void sizesOfPalettes() {
        PaletteReel x = new PaletteReel(8, 8);
        for (int i = 0; i < 64; i++) {
            x.paint(i % 8, i / 8, 3 * i);
        }
        int[] sizes = {0, 2, 2, 4, 4, 8, 8, 8, 8, 16, 16, 16, 16, 16, 16, 16, 16};
        for (int n = 1; n <= 16; n++) {
            x.cut();
            Check.due("boxes", x.reduce(n, n % 3), n);
            Check.due("colours for " + n, x.get(0, 4), sizes[n]);
            Check.due("the last is of a box or 0", x.colourAt(0, sizes[n] - 1) != 0, sizes[n] == n);
        }
    }

    /** Colours of boxes may be alike, and the colours behind those of the boxes do not count. */
    private static void sameColours() {
        reduced(painted(8, 1, 0x000100, 0x000001, 0x020000, 0x020000, 0x020000, 0x020000, 0x020000, 0x020000),
            2, 0, 2, "0 20000", "00111111");
        PaletteReel x = greys(3, 1, 0, 9, 255);
        reduced(x, 1, 0, 1, "585858 0", "000");
        PaletteReel y = greys(5, 1, 0, 9, 100, 200, 255);
        reduced(y, 3, 0, 3, "40404 e3e3e3 646464 0", "00211");
        reduced(painted(4, 1, 0x000001, 0x000100, 0x000003, 0x000300), 2, 0, 2, "2 200", "0101");
        reduced(painted(4, 1, 0x000100, 0x000001, 0x010000, 0x010001), 4, 0, 4, "1 10000 100 10001", "2013");
    }

    private static void pattern() {
        int[] values = new int[16];
        java.util.Arrays.fill(values, 120);
        values[0] = 0;
        values[15] = 130;
        reduced(greys(4, 4, values), 2, 1, 2, "707070 828282", "0101/1010/0101/1011");
        reduced(greys(4, 4, values), 2, 0, 2, "707070 828282", "0000/0000/0000/0001");
        values[15] = 148;
        reduced(greys(4, 4, values), 2, 1, 2, "707070 949494", "0000/1010/0000/1011");
    }

    private static void patternAbove() {
        PaletteReel x = greys(4, 4, 120, 120, 120, 120, 120, 120, 120, 255, 84, 84, 84, 84, 84, 84, 84, 84);
        reduced(x, 2, 1, 2, "545454 888888", "0101/1111/0000/0000");
        reduced(x, 2, 0, 2, "545454 888888", "1111/1111/0000/0000");
    }

    private static void errorsInARow() {
        PaletteReel x = greys(8, 1, 120, 120, 120, 120, 120, 120, 0, 150);
        reduced(x, 2, 2, 2, "666666 969696", "01001001");
        reduced(x, 2, 0, 2, "666666 969696", "00000001");
        reduced(x, 2, 2, 2, "666666 969696", "01001001");
    }

    private static void errorsInTwoRows() {
        PaletteReel x = greys(4, 2, 120, 120, 120, 120, 120, 120, 150, 0);
        reduced(x, 2, 2, 2, "666666 969696", "0100/1010");
        reduced(x, 2, 0, 2, "666666 969696", "0000/0010");
    }

    /** 0 becomes 100, so 3 * 100 / 16 are taken from the 150 behind it, 100 / 16 from that ahead. */
    private static void errorsBelow() {
        int[] greatest = {194, 182, 170, 162};
        String[] due = {"010", "011", "011", "111"};
        for (int i = 0; i < 4; i++) {
            int u = greatest[i];
            String colours = "646464 " + Integer.toHexString(grey(u));
            reduced(greys(3, 2, u, 0, u, 150, u, 150), 2, 2, 2, colours, "101/" + due[i]);
            String back = new StringBuilder(due[i]).reverse().toString();
            reduced(greys(3, 3, u, u, u, u, 0, u, 150, u, 150), 2, 2, 2, colours, "111/101/" + back);
        }
    }

    /** 250 with 24 more is 255, not 274, and 5 with 24 less is 0: else the other box were nearer. */
    private static void patternKeepsInRange() {
        reduced(painted(1, 3, 0xB43000, 0xFA0000, 0xFF4A00), 2, 1, 2, "d71800 ff4a00", "0/0/1");
        reduced(painted(5, 1, 0x05FFFF, 0x4BCFFF, 0x00B5FF, 0x00B5FF, 0x00B5FF), 2, 1, 2, "b5ff 28e7ff", "11000");
    }
}
