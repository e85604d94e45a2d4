/** The edges that the document names of the numbers of places and the errors: Terms, modes 1 and 2. */
public final class EdgeModesTest {
    private static final int PATTERN = 1;
    private static final int ERRORS = 2;
    private static final int[][] SIZES = {{8, 8}, {4, 4}, {8, 2}, {2, 8}, {8, 1}, {1, 8}, {5, 3}, {3, 5}, {7, 4}};

    private EdgeModesTest() {
    }

    public static void main(String[] args) {
        numbersOfPlaces();
        numbersKeptInRange();
        colourOfABoxHasNoNumber();
        roundedTowardZero();
        waysOfErrors();
        errorsThatLeave();
        errorsKeptInRange();
        errorToAColourOfABox();
        noneIsHandedOn();
        errorsBeginAnew();
        Check.end();
    }

    private static PaletteReel greys(int width, int height, int[] values) {
        PaletteReel x = new PaletteReel(width, height);
        for (int i = 0; i < values.length; i++) {
            x.paint(i % width, i / width, 0x010101 * values[i]);
        }
        return x;
    }

    /** The object whose picture was brought to two colours, which are greys of these values. */
    private static PaletteReel reduced(int mode, int width, int height, int[] values, int first, int second) {
        PaletteReel x = greys(width, height, values);
        Check.due("boxes", x.reduce(2, mode), 2);
        Check.due("the first colour", x.colourAt(0, 0), 0x010101 * first);
        Check.due("the second colour", x.colourAt(0, 1), 0x010101 * second);
        return x;
    }

    // Mode 1

    /** The boxes' colours are 100 and 160, so 130 is the last that goes to the first. */
    private static void numbersOfPlaces() {
        Check.says("Terms", "1 the nearest to red, green and blue each with the number of the place added"
            + " (x and y even: -24, only x odd: 8, only y odd: 24, both odd: -8)");
        for (int place = 0; place < 64; place++) {
            boolean xOdd = place % 8 % 2 == 1;
            boolean yOdd = place / 8 % 2 == 1;
            int number = xOdd ? (yOdd ? -8 : 8) : (yOdd ? 24 : -24);
            Check.due("place " + place, numberAt(place, 130 - number), 0);
            Check.due("place " + place, numberAt(place, 131 - number), 1);
        }
    }

    private static int numberAt(int place, int value) {
        int[] values = new int[64];
        boolean low = value < 130;
        int other = (place + 32) % 64;
        int firsts = low ? 30 : 32;
        for (int i = 0; i < 64; i++) {
            if (i == place) {
                values[i] = value;
            } else if (i == other) {
                values[i] = (low ? 200 : 320) - value;
            } else {
                values[i] = firsts > 0 ? 100 : 160;
                firsts--;
            }
        }
        return reduced(PATTERN, 8, 8, values, 100, 160).pixelAt(0, place % 8, place / 8);
    }

    private static void numbersKeptInRange() {
        Check.says("Terms", "1 ... added ..., kept in 0 .. 255");
        // 232 and 24 are 255: 26, 25, 27 away from the one, 44, 5, 6 from the other; with 256 it were the first.
        inAColumn(1, 1, 0xE54091, 0xD354B2,
            0xD354B2, 0xE84194, 0xD354B2, 0xD354B2, 0xD354B2, 0xE54091, 0xE54091, 0xE54091);
        // 231 and 24 are 255: 27, 27, 25 away from the one, 0, 5, 45 from the other; with 254 it were the first.
        inAColumn(1, 1, 0xE4AF86, 0xFFC572,
            0xFFC572, 0xE7B287, 0xFFC572, 0xFFC572, 0xFFC572, 0xE4AF86, 0xE4AF86, 0xE4AF86);
        // 23 less 24 is 0: 31, 6, 19 away from the one, 20, 21, 23 from the other; with -1 it were the second.
        inAColumn(0, 0, 0x1F2E7F, 0x144983,
            0x174C84, 0x1F2E7F, 0x1F2E7F, 0x1F2E7F, 0x1F2E7F, 0x144983, 0x144983, 0x144983);
        // 24 less 24 is 0: 41, 2, 3 away from the one, 24, 23, 24 from the other; with 1 it were the first.
        inAColumn(0, 1, 0x29159D, 0x182EB2,
            0x182FB2, 0x29159D, 0x29159D, 0x29159D, 0x29159D, 0x182EB2, 0x182EB2, 0x182EB2);
    }

    private static void inAColumn(int y, int number, int first, int second, int... colours) {
        PaletteReel x = new PaletteReel(1, 8);
        for (int i = 0; i < 8; i++) {
            x.paint(0, i, colours[i]);
        }
        x.reduce(2, PATTERN);
        Check.due("the first colour", x.colourAt(0, 0), first);
        Check.due("the second colour", x.colourAt(0, 1), second);
        Check.due("the number of " + Integer.toHexString(colours[y]), x.pixelAt(0, 0, y), number);
    }

    private static void colourOfABoxHasNoNumber() {
        Check.says("Terms", "A place whose colour is one of the boxes' gets the first such; others by MODE");
        int[] values = new int[16];
        for (int i = 0; i < 16; i++) {
            values[i] = i < 8 ? 100 : 110;
        }
        for (int mode = PATTERN; mode <= ERRORS; mode++) {
            PaletteReel x = reduced(mode, 4, 4, values, 100, 110);
            Check.due("mode " + mode, Check.pixels(x, 0), "0000/0000/1111/1111");
        }
    }

    // Mode 2

    /** The boxes' colours are 100 and 150, so 125 is the last that goes to the first. */
    private static void roundedTowardZero() {
        Check.says("Terms", "the nearest to red, green, blue each with the error that came to the place / 16"
            + " (rounded toward 0) added");
        int[] sixteenths = {0, 0, 0, 1, 1, 2, 2, 3, 3, 3, 4, 4, 5};
        for (int d = -12; d <= 12; d++) {
            int error = d < 0 ? -sixteenths[-d] : sixteenths[d];
            for (int more = 0; more <= 1; more++) {
                int next = 125 + more - error;
                int[] values = {100 + d, next, 100, 100 - d, 150, 300 - next, 100, 150};
                PaletteReel x = reduced(ERRORS, 8, 1, values, 100, 150);
                Check.due("the place behind one of " + d + " more", x.pixelAt(0, 1, 0), more);
            }
        }
    }

    /** How many sixteenths of the error at one place go to another one. */
    private static int share(int from, int to, int width) {
        int down = to / width - from / width;
        int ahead = (to % width - from % width) * (from / width % 2 == 0 ? 1 : -1);
        if (down == 0) {
            return ahead == 1 ? 7 : 0;
        }
        return down == 1 && ahead >= -1 && ahead <= 1 ? new int[] {3, 5, 1}[ahead + 1] : 0;
    }

    private static void waysOfErrors() {
        Check.says("Terms", "2: row by row, even rows from the left, odd ones from the right ... 7 times to the place"
            + " ahead in the row, 3, 5, 1 times to those below: behind, straight, ahead");
        for (int[] size : SIZES) {
            int n = size[0] * size[1];
            for (int from = 0; from < n; from++) {
                for (int to = 0; to < n; to++) {
                    if (to != from && share(from, to, size[0]) > 0) {
                        errorDue(size[0], size[1], from, to);
                    }
                }
            }
        }
    }

    private static void errorsThatLeave() {
        Check.says("Terms", "(an error that leaves the picture ... has no effect");
        for (int[] size : SIZES) {
            int width = size[0];
            int n = width * size[1];
            for (int from = 0; from < n; from++) {
                boolean atAnEdge = from % width == 0 || from % width == width - 1 || from / width == size[1] - 1;
                for (int to = 0; atAnEdge && to < n; to++) {
                    if (to != from && share(from, to, width) == 0) {
                        errorDue(width, size[1], from, to);
                    }
                }
            }
        }
    }

    /** One place has 16 more or less than its colour, another one shows how much of it came. */
    private static void errorDue(int width, int height, int from, int to) {
        int n = width * height;
        int one = quietPlace(n, width, to, from, from);
        int other = quietPlace(n, width, to, from, one);
        int share = share(from, to, width);
        for (int sign = -1; sign <= 1; sign += 2) {
            for (int more = 0; more <= 1; more++) {
                int value = 125 + more - sign * share;
                int[] values = new int[n];
                int firsts = (n + 1) / 2 - 2;
                for (int i = 0; i < n; i++) {
                    if (i == from || i == one) {
                        values[i] = 100 + (i == from ? 16 : -16) * sign;
                    } else if (i == to || i == other) {
                        values[i] = i == to ? value : 300 - value;
                    } else {
                        values[i] = firsts > 0 ? 100 : 150;
                        firsts--;
                    }
                }
                PaletteReel x = reduced(ERRORS, width, height, values, 100, 150);
                Check.due("from " + from + " to " + to + " of " + width + " * " + height,
                    x.pixelAt(0, to % width, to / width), more);
            }
        }
    }

    /** A place from which no error goes to the two that are looked at. */
    private static int quietPlace(int n, int width, int to, int from, int taken) {
        for (int i = n - 1; i >= 0; i--) {
            boolean free = i != to && i != from && i != taken;
            if (free && share(i, to, width) == 0 && share(i, from, width) == 0) {
                return i;
            }
        }
        throw new IllegalStateException("no quiet place");
    }

    private static void errorsKeptInRange() {
        Check.says("Terms", "added, kept in 0 .. 255; what these have more than the colour that was got goes on as"
            + " error");
        // 100 more are 43 for the next place, 101 would be 44; 96 more are 42, 95 would be 41.
        keptBelow(95, 155, 43, 212);
        keptBelow(95, 159, 42, 213);
        keptAbove(100, 160, -43, 43);
        keptAbove(96, 160, -42, 42);
    }

    /** The second place, with what came from 255, has just 255, or one more, which is kept there. */
    private static void keptBelow(int dark, int light, int error, int second) {
        for (int beyond = 0; beyond <= 1; beyond++) {
            for (int more = 0; more <= 1; more++) {
                int third = (dark + light) / 2 - error + more;
                int rest = 9 * light - 255 - second - beyond;
                int[] values = kept(255, second + beyond, third, 2 * dark - third, dark, rest);
                PaletteReel x = reduced(ERRORS, 6, 3, values, dark, light);
                Check.due("behind 255 and " + (second + beyond), x.pixelAt(0, 2, 0), more);
            }
        }
    }

    /** The second place, with what came from 0, has just 0, or one less, which is kept there. */
    private static void keptAbove(int dark, int light, int error, int second) {
        for (int beyond = 0; beyond <= 1; beyond++) {
            for (int more = 0; more <= 1; more++) {
                int third = (dark + light) / 2 - error + more;
                int rest = 9 * dark - second + beyond;
                int[] values = kept(0, second - beyond, third, 2 * light - third, light, rest);
                PaletteReel x = reduced(ERRORS, 6, 3, values, dark, light);
                Check.due("behind 0 and " + (second - beyond), x.pixelAt(0, 2, 0), more);
            }
        }
    }

    /** Three places in a row, one to balance the third, seven of its box, and seven to balance the first two. */
    private static int[] kept(int first, int second, int third, int balance, int same, int rest) {
        int[] values = new int[18];
        values[0] = first;
        values[1] = second;
        values[2] = third;
        values[17] = balance;
        int left = rest;
        for (int i = 0; i < 7; i++) {
            values[3 + i] = same;
            values[10 + i] = left / (7 - i);
            left -= values[10 + i];
        }
        return values;
    }

    /** 0 goes to 100: its error would bring 120 to 77 and 89, which are nearer to 100. */
    private static int[] darkFirst() {
        int[] values = new int[24];
        java.util.Arrays.fill(values, 120);
        values[0] = 0;
        values[2] = 111;
        values[14] = 109;
        for (int i = 16; i < 24; i++) {
            values[i] = 110;
        }
        return values;
    }

    private static void errorToAColourOfABox() {
        Check.says("Terms", "and any to a place whose colour is one of the boxes', has no effect");
        PaletteReel x = reduced(ERRORS, 6, 4, darkFirst(), 100, 120);
        Check.due("the dark place", x.pixelAt(0, 0, 0), 0);
        Check.due("ahead", x.pixelAt(0, 1, 0), 1);
        Check.due("below", x.pixelAt(0, 0, 1), 1);
        Check.due("below ahead", x.pixelAt(0, 1, 1), 1);
    }

    private static void noneIsHandedOn() {
        Check.says("Terms", "such a place hands none on)");
        PaletteReel x = reduced(ERRORS, 6, 4, darkFirst(), 100, 120);
        Check.due("111 behind it has 11 to the one and 9 to the other", x.pixelAt(0, 2, 0), 1);
    }

    private static void errorsBeginAnew() {
        Check.says("Promise 21", "The picture, reduced to n colours, becomes a new frame");
        int[] values = {120, 120, 120, 120, 120, 120, 0, 150};
        PaletteReel x = greys(8, 1, values);
        for (int f = 0; f < 4; f++) {
            x.reduce(2, f == 2 ? 0 : ERRORS);
            Check.due("frame " + f, Check.pixels(x, f), f == 2 ? "00000001" : "01001001");
        }
        x.cut();
        x.reduce(2, PATTERN);
        Check.due("with numbers of places", Check.pixels(x, 0), "01010101");
    }
}
