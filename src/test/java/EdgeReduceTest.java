/** The edges that the document names of reducing to boxes and their colours: Terms, and promises 20 and 21. */
public final class EdgeReduceTest {
    private static final int LOWEST = Integer.MIN_VALUE;
    private static final int HIGHEST = Integer.MAX_VALUE;

    private EdgeReduceTest() {
    }

    public static void main(String[] args) {
        pictureAtFirst();
        firstBoxHoldsAll();
        boxesBeginAnew();
        whileThereAreFewer();
        greatestSpread();
        earliestOfSeveral();
        redBeforeGreenBeforeBlue();
        thenOfThemselves();
        atLeastHalf();
        allButTheLast();
        othersMakeTheLastBox();
        coloursForTheBoxes();
        meansRoundedDown();
        theOthersAreZero();
        leastSumOfSquares();
        firstOfSeveral();
        colourOfABox();
        nearestToIt();
        paintedPlaces();
        lowestBitsOfAPlace();
        noSuchPlace();
        newFrame();
        howManyBoxes();
        tooFewOrTooManyColours();
        noSuchMode();
        fourFrames();
        Check.end();
    }

    /** A reel whose picture has these colours, row by row. */
    private static PaletteReel painted(int width, int height, int... colours) {
        PaletteReel x = new PaletteReel(width, height);
        for (int i = 0; i < colours.length; i++) {
            x.paint(i % width, i / width, colours[i]);
        }
        return x;
    }

    /** One row of colours. */
    private static PaletteReel row(int... colours) {
        return painted(colours.length, 1, colours);
    }

    private static String colours(PaletteReel x) {
        StringBuilder text = new StringBuilder();
        int n = x.get(0, 4);
        for (int k = 0; k < n; k++) {
            text.append(k == 0 ? "" : " ").append(Integer.toHexString(x.colourAt(0, k)));
        }
        return text.toString();
    }

    private static void due(String what, PaletteReel x, int n, int boxes, String colours) {
        x.cut();
        Check.due("boxes of " + what, x.reduce(n, 0), boxes);
        Check.due("colours of " + what, colours(x), colours);
    }

    private static void due(String what, PaletteReel x, int n, String colours, String pixels) {
        x.cut();
        x.reduce(n, 0);
        Check.due("colours of " + what, colours(x), colours);
        Check.due("pixels of " + what, Check.pixels(x, 0), pixels);
    }

    // Terms

    private static void pictureAtFirst() {
        Check.says("Terms", "REDUCING the PICTURE (as large as the reel, at first all 0) to n colours");
        int[][] sizes = {{1, 1}, {8, 1}, {1, 8}, {8, 8}, {3, 5}};
        for (int[] size : sizes) {
            PaletteReel x = new PaletteReel(size[0], size[1]);
            Check.due("one box", x.reduce(16, 2), 1);
            Check.due("its colour", colours(x), "0 0");
            Check.due("its width", x.get(0, 2), size[0]);
            Check.due("its height", x.get(0, 3), size[1]);
            x.paint(size[0] - 1, size[1] - 1, 5);
            Check.due("two boxes, or the one place", x.reduce(16, 0), size[0] * size[1] == 1 ? 1 : 2);
        }
    }

    private static void firstBoxHoldsAll() {
        Check.says("Terms", "BOXES hold the different colours of the picture with how often they are there;"
            + " first one holds all");
        due("one colour", row(7, 7, 7), 1, 1, "7 0");
        due("one of them three times", row(4, 4, 4, 8), 1, 1, "5 0");
        due("the other three times", row(4, 8, 8, 8), 1, 1, "7 0");
        due("two colours of two boxes, however often", row(8, 4, 8, 8, 4), 2, 2, "4 8");
    }

    /** What an object has reduced before has no effect, however many boxes there were. */
    private static void boxesBeginAnew() {
        Check.says("Terms", "first one holds all");
        for (int n = 1; n <= 16; n++) {
            PaletteReel x = new PaletteReel(6, 3);
            many(x, 37);
            x.reduce(16, 2);
            x.cut();
            many(x, 5);
            PaletteReel fresh = new PaletteReel(6, 3);
            many(fresh, 5);
            Check.due("boxes", x.reduce(n, 0), fresh.reduce(n, 0));
            Check.due("colours of " + n, colours(x), colours(fresh));
            Check.due("pixels of " + n, Check.pixels(x, 0), Check.pixels(fresh, 0));
        }
        PaletteReel y = row(0, 60, 100, 120, 200, 210, 220, 230);
        y.reduce(3, 0);
        for (int i = 0; i < 8; i++) {
            y.paint(i, 0, new int[] {0, 1, 2, 2, 100, 101, 102, 103}[i]);
        }
        due("three, then three others", y, 3, 3, "1 64 66 0");
    }

    private static void many(PaletteReel x, int step) {
        for (int i = 0; i < 18; i++) {
            x.paint(i % 6, i / 6, (i + 1) * step * 0x010307 % 0xFFFFFF);
        }
    }

    private static void whileThereAreFewer() {
        Check.says("Terms", "While there are fewer than n boxes and one of them has two colours or more");
        for (int different = 1; different <= 18; different++) {
            PaletteReel x = new PaletteReel(6, 3);
            for (int i = 0; i < 18; i++) {
                x.paint(i % 6, i / 6, i % different * 9);
            }
            for (int n = 1; n <= 16; n++) {
                x.cut();
                Check.due(different + " colours to " + n, x.reduce(n, n % 3), Math.min(different, n));
            }
        }
        PaletteReel y = new PaletteReel(8, 8);
        for (int i = 0; i < 64; i++) {
            y.paint(i % 8, i / 8, 0x010203 * i);
        }
        Check.due("64 colours to 16", y.reduce(16, 0), 16);
        Check.due("64 colours to 1", y.reduce(1, 0), 1);
    }

    private static void greatestSpread() {
        Check.says("Terms", "that with the greatest SPREAD (of red, green and blue the greatest difference in it)");
        due("11 in the second", row(0, 10, 100, 111), 3, 3, "5 64 6f 0");
        due("11 in the first", row(0, 11, 100, 110), 3, 3, "0 69 b 0");
        // Green parts them first; then red has 20 in one, blue 21 in the other.
        due("red and blue", row(0, 0x140000, 0x00C800, 0x00C815), 3, 3, "a0000 c800 c815 0");
        due("green and red", row(0, 0x001500, 0xC80000, 0xDC0000), 3, 3, "0 d20000 1500 0");
        due("the greatest, not all of them", row(0, 0x140000, 0x0FC80F, 0x00D70F), 3, 3, "0 7cf0f 140000 0");
    }

    private static void earliestOfSeveral() {
        Check.says("Terms", "the earliest of several");
        due("10 in both", row(0, 10, 100, 110), 3, 3, "0 69 a 0");
        due("then the second has 10 alone", row(0, 10, 100, 110), 4, 4, "0 64 a 6e");
        due("20 of red and of blue", row(0, 0x140000, 0x00C800, 0x00C814), 3, 3, "0 c80a 140000 0");
        due("20 of blue and of red", row(0, 0x000014, 0x00C800, 0x14C800), 3, 3, "0 ac800 14 0");
    }

    private static void redBeforeGreenBeforeBlue() {
        Check.says("Terms", "is parted by the part with that spread (red before green before blue)");
        due("red and green alike", row(0x0A0000, 0x000A00), 2, "a00 a0000", "10");
        due("green more", row(0x0A0000, 0x000B00), 2, "a0000 b00", "01");
        due("green and blue alike", row(0x000A00, 0x00000A), 2, "a a00", "10");
        due("blue more", row(0x000A00, 0x00000B), 2, "a00 b", "01");
        due("red and blue alike", row(0x0A0000, 0x00000A), 2, "a a0000", "10");
        due("blue more", row(0x0A0000, 0x00000B), 2, "a0000 b", "01");
        due("all three alike", row(0x0A0000, 0x000A0A), 2, "a0a a0000", "10");
        due("red alone", row(0x0A0000, 0), 2, "0 a0000", "10");
    }

    private static void thenOfThemselves() {
        Check.says("Terms", "its colours standing in the order of that part, then of themselves");
        due("red alike", row(0x000005, 0x090000, 0x000003, 0x000003), 2, 2, "3 40002");
        due("blue alike", row(0x010000, 0x000032, 0x000100, 0x000100), 2, 2, "100 19");
        due("green alike", row(0x010000, 0x003200, 0x000001, 0x000001), 2, 2, "1 1900");
        due("the part goes first", row(0x000001, 0x000001, 0x320000, 0x000900), 2, 2, "1 190400");
    }

    private static void atLeastHalf() {
        Check.says("Terms", "as many as are at least half of its pixels ... stay");
        due("just half", row(1, 1, 3, 9), 2, 2, "1 6");
        due("one more than half", row(1, 1, 1, 1, 3, 9), 2, 2, "1 6");
        due("one less than half", row(1, 1, 3, 3, 9, 9), 2, 2, "2 9");
        due("half a pixel less than half", row(1, 1, 3, 7, 9), 2, 2, "1 8");
        due("half a pixel more", row(1, 1, 1, 3, 9), 2, 2, "1 6");
        due("all different", row(1, 3, 5, 9), 2, 2, "2 7");
        due("an odd number of them", row(1, 3, 5, 7, 9), 2, 2, "3 8");
        due("half of the box, not of the picture", row(1, 3, 5, 9, 200, 200, 200, 200), 3, 3, "2 c8 7 0");
    }

    private static void allButTheLast() {
        Check.says("Terms", "but all colours but the last at most");
        due("the last has most", row(1, 3, 9, 9, 9, 9), 2, 2, "2 9");
        due("of two, too", row(1, 9, 9, 9, 9, 9), 2, 2, "1 9");
        due("the last has just half", row(1, 3, 5, 9, 9, 9), 2, 2, "3 9");
        due("the last has all but one", row(9, 9, 9, 9, 9, 9, 9, 8), 2, 2, "8 9");
    }

    private static void othersMakeTheLastBox() {
        Check.says("Terms", "the others make the last box");
        due("1 2 | 3 4", row(1, 2, 3, 4), 2, "1 3", "0011");
        due("1 | 3 4 | 2", row(1, 2, 3, 4), 3, "1 3 2 0", "0211");
        due("1 | 3 | 2 | 4", row(1, 2, 3, 4), 4, "1 3 2 4", "0213");
    }

    private static void coloursForTheBoxes() {
        Check.says("Terms", "The palette of the new frame has as many colours as are needed for the boxes");
        int[] due = {0, 2, 2, 4, 4, 8, 8, 8, 8, 16, 16, 16, 16, 16, 16, 16, 16};
        for (int boxes = 1; boxes <= 16; boxes++) {
            PaletteReel x = new PaletteReel(4, 4);
            for (int i = 0; i < 16; i++) {
                x.paint(i % 4, i / 4, i % boxes * 7 + 1);
            }
            Check.due("boxes", x.reduce(16, 0), boxes);
            Check.due("colours for " + boxes + " of 16", x.get(0, 4), due[boxes]);
            Check.due("boxes", x.reduce(boxes, 0), boxes);
            Check.due("colours for " + boxes, x.get(1, 4), due[boxes]);
        }
    }

    private static void meansRoundedDown() {
        Check.says("Terms", "colour k is the mean of box k, for red, green and blue the sum over its pixels"
            + " / their number, rounded down");
        due("1 / 2", row(0, 1), 1, 1, "0 0");
        due("3 / 2", row(1, 2), 1, 1, "1 0");
        due("5 / 3", row(1, 2, 2), 1, 1, "1 0");
        due("6 / 3", row(1, 2, 3), 1, 1, "2 0");
        due("each of the three", row(0x000102, 0x010101, 0x010203), 1, 1, "102 0");
        due("255 and 254", row(0xFFFFFF, 0xFEFEFE), 1, 1, "fefefe 0");
        int[] white = new int[64];
        java.util.Arrays.fill(white, 0xFFFFFF);
        due("64 times white", painted(8, 8, white), 1, 1, "ffffff 0");
        white[63] = 0xFEFFFE;
        due("all but one", painted(8, 8, white), 1, 1, "fefffe 0");
    }

    private static void theOthersAreZero() {
        Check.says("Terms", "the others are 0");
        for (int boxes = 1; boxes <= 16; boxes++) {
            PaletteReel x = new PaletteReel(4, 4);
            for (int i = 0; i < 16; i++) {
                x.paint(i % 4, i / 4, i % boxes * 7 + 1);
            }
            x.frame(0, 0, 1, 1);
            x.palette(0, 4);
            for (int k = 0; k < 16; k++) {
                x.colour(0, k, 99);
            }
            x.cut();
            x.reduce(16, 0);
            int n = x.get(0, 4);
            for (int k = 0; k < n; k++) {
                Check.due("colour " + k + " of " + boxes + " is 0", x.colourAt(0, k) == 0, k >= boxes);
            }
        }
        due("black is not one of the boxes' then", row(0, 0xFFFFFF), 1, "7f7f7f 0", "00");
        due("nor the nearest", row(1, 0xFFFFFF, 1), 1, "555555 0", "000");
        due("nor of three", row(0x505050, 0x020202, 0xA0A0A0, 0xA0A0A0, 0xFFFFFF, 0xFFFFFF), 3,
            "292929 ffffff a0a0a0 0", "002211");
    }

    private static void leastSumOfSquares() {
        Check.says("Terms", "The NEAREST of the boxes' colours is the one with the least sum of the squares of the"
            + " three differences");
        // 0x676464 has 9 to the first, 4 + 4 to the second.
        due("squares", row(0x646464, 0x646464, 0x646464, 0x646464, 0x656264, 0x656264, 0x656264, 0x676464), 2,
            "646464 656264", "00001111");
        // 0x664464 has 4 to the first, 1 + 1 + 1 to the second, of red, green and blue.
        due("all three", row(0x644464, 0x644464, 0x644464, 0x644464, 0x654363, 0x654363, 0x654363, 0x664464), 2,
            "644464 654363", "00001111");
    }

    private static void firstOfSeveral() {
        Check.says("Terms", "the first of several");
        due("4 to both", row(0x646464, 0x646464, 0x646464, 0x646464, 0x666264, 0x666264, 0x666264, 0x666464), 2,
            "646464 666264", "00001110");
        // The boxes are 0, 150 and 100, so 125 goes to 150.
        due("not the least", painted(8, 2, 0, 0, 0, 0, 75, 100, 100, 125, 150, 150, 150, 150, 150, 150, 150, 150),
            3, "0 96 64 0", "00002221/11111111");
        due("one less", painted(8, 2, 0, 0, 0, 0, 76, 100, 100, 124, 150, 150, 150, 150, 150, 150, 150, 150),
            3, "0 96 64 0", "00002222/11111111");
    }

    private static void colourOfABox() {
        Check.says("Terms", "A place whose colour is one of the boxes' gets the first such");
        PaletteReel x = row(0, 0x000001, 0, 0x000100);
        for (int mode = 0; mode <= 2; mode++) {
            x.cut();
            Check.due("two boxes", x.reduce(2, mode), 2);
            Check.due("of one colour", colours(x), "0 0");
            Check.due("the first such", Check.pixels(x, 0), "0000");
        }
        // 0x646464 is in the first box, but it is the colour of the second.
        PaletteReel z = row(0x646464, 0x466464, 0x646E64, 0x655A64);
        for (int mode = 0; mode <= 2; mode++) {
            z.cut();
            z.reduce(2, mode);
            Check.due("their colours", colours(z), "556464 646464");
            Check.due("the colour of another box in mode " + mode, z.pixelAt(0, 0, 0), 1);
        }
        // 100 and 110: neither numbers of places nor errors move them.
        PaletteReel y = new PaletteReel(8, 8);
        for (int i = 0; i < 64; i++) {
            y.paint(i % 8, i / 8, (i * i / 3 % 2 == 0 ? 100 : 110) * 0x010101);
        }
        for (int mode = 0; mode <= 2; mode++) {
            y.cut();
            y.reduce(2, mode);
            for (int i = 0; i < 64; i++) {
                Check.due("place " + i + " in mode " + mode, y.pixelAt(0, i % 8, i / 8), i * i / 3 % 2);
            }
        }
    }

    private static void nearestToIt() {
        Check.says("Terms", "others by MODE 0 the nearest to it");
        // The boxes' colours are 100 and 150.
        for (int value = 101; value < 150; value++) {
            int other = value <= 125 ? 200 - value : 300 - value;
            int firsts = value <= 125 ? 2 : 4;
            int[] all = new int[8];
            for (int i = 0; i < 8; i++) {
                all[i] = 0x010101 * (i == 0 ? value : i == 7 ? other : i <= firsts ? 100 : 150);
            }
            PaletteReel x = row(all);
            Check.due("boxes", x.reduce(2, 0), 2);
            Check.due("their colours", colours(x), "646464 969696");
            Check.due("number of " + value, x.pixelAt(0, 0, 0), value <= 125 ? 0 : 1);
        }
    }

    // Promise 20

    private static void paintedPlaces() {
        Check.says("Promise 20", "A place of the picture becomes rgb");
        int[][] sizes = {{1, 1}, {8, 1}, {1, 8}, {8, 8}, {3, 5}};
        for (int[] size : sizes) {
            int[][] corners = {{0, 0}, {size[0] - 1, 0}, {0, size[1] - 1}, {size[0] - 1, size[1] - 1}};
            for (int[] corner : corners) {
                PaletteReel x = new PaletteReel(size[0], size[1]);
                x.paint(corner[0], corner[1], 0x123456);
                x.reduce(2, 0);
                for (int i = 0; i < size[0] * size[1]; i++) {
                    boolean it = i % size[0] == corner[0] && i / size[0] == corner[1];
                    int number = x.pixelAt(0, i % size[0], i / size[0]);
                    Check.due("place " + i, x.colourAt(0, number), it ? 0x123456 : 0);
                }
            }
        }
        PaletteReel y = Scene.some();
        y.paint(2, 1, 1);
        Check.due("the reel stays", Check.reelState(y), Check.reelState(Scene.some()));
        Check.due("the canvas stays", Check.canvas(y), Check.canvas(Scene.some()));
        Check.due("the bytes stay", Check.bytes(y), Check.bytes(Scene.some()));
    }

    private static void lowestBitsOfAPlace() {
        Check.says("Promise 20", "(its lowest 24 bits)");
        int[] given = {0, 1, 0xFFFFFF, 0x1000000, 0x1000001, -1, LOWEST, HIGHEST, 0x7F123456};
        int[] due = {0, 1, 0xFFFFFF, 0, 1, 0xFFFFFF, 0, 0xFFFFFF, 0x123456};
        for (int i = 0; i < given.length; i++) {
            PaletteReel x = new PaletteReel(1, 1);
            x.paint(0, 0, given[i]);
            x.reduce(1, 0);
            Check.due("of " + given[i], x.colourAt(0, 0), due[i]);
            PaletteReel y = new PaletteReel(2, 1);
            y.paint(0, 0, given[i]);
            y.paint(1, 0, due[i]);
            Check.due("the same colour as " + due[i], y.reduce(2, 0), 1);
        }
    }

    private static void noSuchPlace() {
        Check.says("Promise 20", "IndexOutOfBoundsException when there is no such place.");
        int[][] places = {{-1, 0}, {3, 0}, {0, -1}, {0, 2}, {-1, 1}, {3, 1}, {2, 2}, {2, -1}, {LOWEST, 0},
            {HIGHEST, 0}, {0, LOWEST}, {0, HIGHEST}, {8, 0}, {11, -1}, {-8, 1}, {7, 1}};
        for (int[] p : places) {
            Scene.refuses("paint(" + p[0] + ", " + p[1] + ")", Scene::some, Scene.INDEX, x -> x.paint(p[0], p[1], 1));
            Scene.refuses("paint(" + p[0] + ", " + p[1] + ")", Scene::bare, Scene.INDEX, x -> x.paint(p[0], p[1], 1));
        }
        Check.fine("the last place", () -> Scene.some().paint(2, 1, 1));
        Check.fine("the first place", () -> Scene.some().paint(0, 0, 1));
    }

    // Promise 21

    private static void newFrame() {
        Check.says("Promise 21", "The picture, reduced to n colours, becomes a new frame as large as the reel, at"
            + " 0, 0, with a palette of its own (otherwise as frame makes one)");
        int[][] sizes = {{1, 1}, {8, 1}, {1, 8}, {8, 8}, {3, 5}};
        for (int[] size : sizes) {
            PaletteReel x = new PaletteReel(size[0], size[1]);
            x.palette(-1, 4);
            x.frame(7, 7, 8, 8);
            x.palette(0, 4);
            x.set(0, 3, 255, 15, true);
            x.cut();
            for (int f = 0; f < 4; f++) {
                x.reduce(16, f % 3);
                int[] due = {0, 0, size[0], size[1], 2, 0, 0, -1, 0};
                for (int what = 0; what <= 8; what++) {
                    Check.due("get(" + f + ", " + what + ")", x.get(f, what), due[what]);
                }
                Check.due("its last pixel", x.pixelAt(f, size[0] - 1, size[1] - 1), 0);
            }
            Check.due("four frames", x.frames(), 4);
            Check.due("the reel's colours", x.get(-1, 4), 16);
        }
        PaletteReel y = Scene.some();
        Check.due("behind others", y.reduce(2, 0) + y.frames(), 5);
        Check.due("frame 0 stays", y.get(0, 6), 9);
        Check.due("frame 1 stays", Check.pixels(y, 1), Check.pixels(Scene.some(), 1));
        Check.due("the canvas stays", Check.canvas(y), Check.canvas(Scene.some()));
        Check.due("the bytes stay", Check.bytes(y), Check.bytes(Scene.some()));
        Check.due("the picture stays", Scene.picture(y), Scene.picture(Scene.some()));
    }

    private static void howManyBoxes() {
        Check.says("Promise 21", "how many boxes there were");
        PaletteReel x = row(1, 2, 3, 4, 5, 6, 7, 8);
        for (int n = 1; n <= 16; n++) {
            x.cut();
            Check.due("of 8 colours to " + n, x.reduce(n, 0), Math.min(8, n));
        }
        // Two boxes whose colours are the same are two.
        Check.due("alike", row(0, 0x000001, 0, 0x000100).reduce(2, 0), 2);
    }

    private static void tooFewOrTooManyColours() {
        Check.says("Promise 21", "IllegalArgumentException when n is not 1 .. 16");
        int[] wrong = {LOWEST, -1, 0, 17, 18, 32, HIGHEST};
        for (int n : wrong) {
            for (int mode = 0; mode <= 2; mode++) {
                int asked = mode;
                Scene.refuses("reduce(" + n + ", " + mode + ")", Scene::some, Scene.ARGUMENT, x -> x.reduce(n, asked));
                Scene.refuses("reduce(" + n + ", " + mode + ")", Scene::bare, Scene.ARGUMENT, x -> x.reduce(n, asked));
            }
        }
        Check.due("1", Scene.some().reduce(1, 0), 1);
        Check.due("16", Scene.some().reduce(16, 0), 5);
    }

    private static void noSuchMode() {
        Check.says("Promise 21", "or mode not 0 .. 2");
        int[] wrong = {LOWEST, -1, 3, 4, HIGHEST};
        for (int mode : wrong) {
            Scene.refuses("reduce(1, " + mode + ")", Scene::some, Scene.ARGUMENT, x -> x.reduce(1, mode));
            Scene.refuses("reduce(16, " + mode + ")", Scene::bare, Scene.ARGUMENT, x -> x.reduce(16, mode));
        }
        for (int mode = 0; mode <= 2; mode++) {
            Check.due("mode " + mode, Scene.some().reduce(2, mode), 2);
        }
    }

    private static void fourFrames() {
        Check.says("Promise 21", "IllegalStateException when there are 4 frames.");
        for (int mode = 0; mode <= 2; mode++) {
            int asked = mode;
            Scene.refuses("reduce(1, " + mode + ")", Scene::full, Scene.STATE, x -> x.reduce(1, asked));
            Scene.refuses("reduce(16, " + mode + ")", Scene::full, Scene.STATE, x -> x.reduce(16, asked));
        }
        PaletteReel x = Scene.some();
        Check.due("the third", x.reduce(16, 0), 5);
        Check.due("the fourth", x.reduce(16, 0), 5);
        Check.noState("the fifth", () -> x.reduce(16, 0));
        Check.due("four", x.frames(), 4);
    }
}
