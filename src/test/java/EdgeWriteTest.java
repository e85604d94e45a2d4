import java.util.ArrayList;
import java.util.Arrays;
import java.util.List;
import java.util.TreeSet;

/** The edges that the document names of the bytes that are written: Terms, and promise 12. */
public final class EdgeWriteTest {
    // All sizes of a frame, as far as they are told apart by their pixels.
    private static final int[][] SIZES = {{1, 1}, {2, 1}, {3, 1}, {4, 1}, {5, 1}, {6, 1}, {7, 1}, {8, 1}, {3, 3},
        {5, 2}, {4, 3}, {7, 2}, {5, 3}, {4, 4}, {6, 3}, {5, 4}, {7, 3}, {8, 3}, {5, 5}, {7, 4}, {6, 5}, {8, 4},
        {7, 5}, {6, 6}, {8, 5}, {7, 6}, {8, 6}, {7, 7}, {8, 7}, {8, 8}};

    private EdgeWriteTest() {
    }

    public static void main(String[] args) {
        rangeOfTheBytes();
        headOfTheBytes();
        palettesInTheBytes();
        settingsInTheBytes();
        placesInTheBytes();
        lastByte();
        bitsOfNumbers();
        blocks();
        bitsFromTheLowest();
        rowsOneByOne();
        rowsInPasses();
        codesOfOnePixel();
        firstAndLastEntry();
        noEntriesBehindAFreshOne();
        whatMakesAnEntry();
        bitsOfCodes();
        bitsOfFreshOneAndEnd();
        longestString();
        entryThatTheCodeMakes();
        freshOneWhenPixelsAreLeft();
        noFreshOneWhenNoneAreLeft();
        restOfTheLastByte();
        whatWasThereIsGone();
        howManyBytes();
        Check.end();
    }

    /** A reel of one frame, which has these numbers row by row, its colours being the reel's. */
    private static PaletteReel reel(int bits, int width, int height, int... numbers) {
        PaletteReel x = new PaletteReel(1, 1);
        x.palette(-1, bits);
        x.frame(0, 0, width, height);
        for (int i = 0; i < numbers.length; i++) {
            x.pixel(0, i % width, i / width, numbers[i]);
        }
        return x;
    }

    /** What is written from m on, without the 59. */
    private static List<Integer> rest(PaletteReel x) {
        int length = x.write();
        List<Integer> bytes = new ArrayList<>();
        for (int k = 5 + 3 * x.get(-1, 4) + 10 + 3 * x.get(0, 4); k < length - 1; k++) {
            bytes.add(x.byteAt(k));
        }
        return bytes;
    }

    /** The codes, cut into blocks as they should be, behind m. */
    private static List<Integer> cut(int m, List<Integer> data) {
        List<Integer> bytes = Check.list(m);
        for (int start = 0; start < data.size(); start += 20) {
            bytes.addAll(Check.block(data.subList(start, Math.min(data.size(), start + 20))));
        }
        bytes.add(0);
        return bytes;
    }

    private static void codesDue(String what, PaletteReel x, int m, Codes codes) {
        Check.due(what, Check.texts(rest(x)), Check.texts(cut(m, codes.bytes())));
    }

    /** Numbers below n of which no two stand behind one another a second time; there are n * n. */
    private static int[] differentPairs(int n, int length) {
        int[] numbers = new int[length];
        boolean[] met = new boolean[n * n];
        for (int i = 1; i < length; i++) {
            int next = n - 1;
            while (next > 0 && met[numbers[i - 1] * n + next]) {
                next--;
            }
            met[numbers[i - 1] * n + next] = true;
            numbers[i] = next;
        }
        return numbers;
    }

    // The bytes

    private static void rangeOfTheBytes() {
        Check.says("Terms", "THE BYTES (0 .. 255) of a reel");
        int[] numbers = differentPairs(16, 64);
        PaletteReel x = reel(4, 8, 8, numbers);
        for (int k = 0; k < 16; k++) {
            x.colour(-1, k, k % 2 == 0 ? 0xFF80FE : 0x7FFF00);
        }
        x.set(0, 3, 255, 15, true);
        int length = x.write();
        for (int k = 0; k < length; k++) {
            Check.due("byte " + k + " is 0 .. 255", x.byteAt(k) >= 0 && x.byteAt(k) <= 255, true);
        }
        Check.due("no byte behind the last", x.byteAt(length), PaletteReel.NONE);
    }

    private static void headOfTheBytes() {
        Check.says("Terms", "80, 49, width, height, and 0 .. 3 for a palette of 2, 4, 8 or 16");
        int[][] sizes = {{1, 1}, {8, 1}, {1, 8}, {8, 8}, {3, 5}};
        for (int[] size : sizes) {
            for (int bits = 1; bits <= 4; bits++) {
                PaletteReel x = new PaletteReel(size[0], size[1]);
                x.palette(-1, bits);
                x.write();
                int[] due = {80, 49, size[0], size[1], bits - 1};
                for (int k = 0; k < 5; k++) {
                    Check.due("byte " + k, x.byteAt(k), due[k]);
                }
            }
        }
    }

    private static void palettesInTheBytes() {
        Check.says("Terms", "the palette, three bytes for each colour, red first");
        for (int bits = 1; bits <= 4; bits++) {
            PaletteReel x = new PaletteReel(1, 1);
            int n = x.palette(-1, bits);
            x.colour(-1, 0, 0xFF0180);
            x.colour(-1, n - 1, 0x00FFFE);
            Check.due("how many bytes", x.write(), 5 + 3 * n + 1);
            int[] due = {255, 1, 128, 0, 255, 254};
            for (int i = 0; i < 3; i++) {
                Check.due("part " + i + " of the first", x.byteAt(5 + i), due[i]);
                Check.due("part " + i + " of the last", x.byteAt(5 + 3 * n - 3 + i), due[3 + i]);
            }
            Check.due("what is behind", x.byteAt(5 + 3 * n), 59);
        }
    }

    private static void settingsInTheBytes() {
        Check.says("Terms", "for each frame in order 33, disposal, and 16 more when it has a clear number,"
            + " delay, the clear number or 0");
        int[] clears = {-1, 0, 1, 15};
        int[] delays = {0, 1, 255};
        for (int disposal = 0; disposal <= 3; disposal++) {
            for (int clear : clears) {
                for (int delay : delays) {
                    PaletteReel x = reel(4, 1, 1, 0);
                    x.set(0, disposal, delay, clear, false);
                    x.write();
                    int[] due = {33, clear < 0 ? disposal : disposal + 16, delay, Math.max(0, clear), 44};
                    for (int i = 0; i < 5; i++) {
                        Check.due("byte " + i + " of it", x.byteAt(53 + i), due[i]);
                    }
                }
            }
        }
    }

    private static void placesInTheBytes() {
        Check.says("Terms", "then 44, left, top, width, height, and a byte that is 1 when it is woven, and"
            + " 2 + 4 * (0 .. 3) more when it has a palette of its own (2, 4, 8, 16), and that palette; then m,"
            + " and DATA");
        int[] flags = {0, 2, 6, 10, 14};
        int[][] places = {{0, 0, 1, 1}, {7, 0, 1, 8}, {0, 7, 8, 1}, {7, 7, 8, 8}};
        for (int[] place : places) {
            for (int bits = 0; bits <= 4; bits++) {
                for (int woven = 0; woven <= 1; woven++) {
                    PaletteReel x = new PaletteReel(1, 1);
                    x.frame(place[0], place[1], place[2], place[3]);
                    int n = x.palette(0, bits);
                    x.set(0, 0, 0, -1, woven == 1);
                    placeDue(x, place, flags[bits] + woven, n);
                }
            }
        }
    }

    private static void placeDue(PaletteReel x, int[] place, int flags, int n) {
        if (n > 0) {
            x.colour(0, n - 1, 0x0A0B0C);
        }
        int length = x.write();
        Check.due("44", x.byteAt(15), 44);
        for (int i = 0; i < 4; i++) {
            Check.due("byte " + i + " behind 44", x.byteAt(16 + i), place[i]);
        }
        Check.due("flags", x.byteAt(20), flags);
        if (n > 0) {
            Check.due("red of the last colour", x.byteAt(20 + 3 * n - 2), 10);
            Check.due("blue of the last colour", x.byteAt(20 + 3 * n), 12);
        }
        Check.due("m behind", x.byteAt(21 + 3 * n), n < 8 ? 2 : n == 8 ? 3 : 4);
        int block = x.byteAt(22 + 3 * n);
        Check.due("one block of data, 0 and 59 behind m", length, 22 + 3 * n + 1 + block + 2);
        Check.due("0 behind the data", x.byteAt(length - 2), 0);
    }

    private static void lastByte() {
        Check.says("Terms", "at last 59");
        PaletteReel x = new PaletteReel(1, 1);
        for (int n = 0; n <= 4; n++) {
            int length = x.write();
            Check.due("bytes of " + n + " frames", length, 12 + 15 * n);
            Check.due("the last one", x.byteAt(length - 1), 59);
            Check.due("none behind", x.byteAt(length), -1);
            for (int f = 0; f < n; f++) {
                Check.due("delay of frame " + f + ", in order", x.byteAt(11 + 15 * f + 2), 50 + f);
            }
            if (n < 4) {
                x.frame(0, 0, 1, 1);
                x.set(n, 0, 50 + n, -1, false);
            }
        }
    }

    // m, blocks and bits

    private static void bitsOfNumbers() {
        Check.says("Terms", "m is 2, 3 or 4: the number of bits that numbers of its palette have, but at least 2");
        int[] due = {0, 2, 2, 3, 4};
        for (int shared = 1; shared <= 4; shared++) {
            for (int own = 0; own <= 4; own++) {
                PaletteReel x = reel(shared, 1, 1, 0);
                x.palette(0, own);
                int m = rest(x).get(0);
                Check.due("m of " + own + " bits, " + shared + " of the reel's", m, due[own == 0 ? shared : own]);
            }
        }
    }

    private static void blocks() {
        Check.says("Terms", "Data come in BLOCKS, each a byte that says how many follow and these, 20 in all"
            + " blocks but the last one, which has 1 .. 20; behind them 0.");
        TreeSet<Integer> met = new TreeSet<>();
        for (int[] size : SIZES) {
            for (int step = 1; step <= 12; step++) {
                int[] numbers = new int[size[0] * size[1]];
                for (int i = 0; i < numbers.length; i++) {
                    numbers[i] = i * (i / step + 1) % 16;
                }
                PaletteReel x = reel(4, size[0], size[1], numbers);
                met.add(blocksDue(rest(x), dataOf(numbers)));
            }
        }
        met.add(blocksDue(rest(reel(4, 8, 8, differentPairs(16, 64))), dataOf(differentPairs(16, 64))));
        Check.due("few bytes, and as many as go into one block and two, were met",
            met.containsAll(List.of(2, 19, 20, 21, 39, 40, 41, 47)), true);
    }

    private static List<Integer> dataOf(int[] numbers) {
        String text = Model.codes(4, Arrays.stream(numbers).boxed().toList());
        int[] bits = new int[2 * text.length()];
        for (int i = 0; i < text.length(); i++) {
            bits[2 * i] = text.charAt(i) - '0';
            bits[2 * i + 1] = 1;
        }
        return Check.packed(bits);
    }

    /** Takes the blocks apart again: how many bytes of data there are. */
    private static int blocksDue(List<Integer> rest, List<Integer> data) {
        int at = 1;
        int taken = 0;
        while (taken < data.size()) {
            int n = Math.min(20, data.size() - taken);
            Check.due("bytes of a block at " + taken + " of " + data.size(), rest.get(at), n);
            Check.due("the bytes", Check.texts(rest.subList(at + 1, at + 1 + n)),
                Check.texts(data.subList(taken, taken + n)));
            taken += n;
            at += n + 1;
        }
        Check.due("0 behind them", rest.get(at), 0);
        Check.due("nothing behind it", rest.size(), at + 1);
        return data.size();
    }

    private static void bitsFromTheLowest() {
        Check.says("Terms", "Bits of data fill each byte from the lowest one on.");
        // 100, 011, 101 as they are written down: 4, 3 and the end.
        Check.due("4 3 5", Check.texts(rest(reel(2, 1, 1, 3))), "2 2 92 1 0");
        // 10000, 01111, 10001.
        Check.due("16 15 17", Check.texts(rest(reel(4, 1, 1, 15))), "4 2 240 69 0");
    }

    // The order

    private static void rowsOneByOne() {
        Check.says("Terms", "THE ORDER of pixels is row by row, from the top, each from the left");
        for (int[] size : SIZES) {
            int n = size[0] * size[1];
            if (n <= 16) {
                int[] numbers = new int[n];
                for (int i = 0; i < n; i++) {
                    numbers[i] = i;
                }
                codesDue("rows of " + n, reel(4, size[0], size[1], numbers), 4,
                    new Codes(4).fresh().strings(numbers).end());
            }
        }
    }

    private static void rowsInPasses() {
        Check.says("Terms", "the rows of a woven frame in four passes: rows 0, 8; 4; 2, 6; 1, 3, 5, 7"
            + " (as far as there are such)");
        int[][] orders = {{}, {0}, {0, 1}, {0, 2, 1}, {0, 2, 1, 3}, {0, 4, 2, 1, 3}, {0, 4, 2, 1, 3, 5},
            {0, 4, 2, 6, 1, 3, 5}, {0, 4, 2, 6, 1, 3, 5, 7}};
        for (int height = 1; height <= 8; height++) {
            for (int width = 1; width <= 2; width++) {
                int[] numbers = new int[width * height];
                int[] due = new int[width * height];
                for (int i = 0; i < numbers.length; i++) {
                    numbers[i] = i;
                    due[i] = orders[height][i / width] * width + i % width;
                }
                PaletteReel x = reel(4, width, height, numbers);
                codesDue("not woven", x, 4, new Codes(4).fresh().strings(numbers).end());
                x.set(0, 0, 0, -1, true);
                codesDue("woven, height " + height, x, 4, new Codes(4).fresh().strings(due).end());
                wovenComesBack(x, width * height);
            }
        }
    }

    private static void wovenComesBack(PaletteReel x, int n) {
        String before = Check.pixels(x, 0);
        x.write();
        x.cut();
        Check.due("it is read", x.read(), 1);
        Check.due("the same " + n + " pixels come back", Check.pixels(x, 0), before);
    }

    // Codes

    private static void codesOfOnePixel() {
        Check.says("Terms", "CODES: below C = 2 to the power of m they stand for one pixel; C is the FRESH one,"
            + " C + 1 the END");
        for (int number = 0; number < 16; number++) {
            for (int bits = number < 2 ? 1 : number < 4 ? 2 : number < 8 ? 3 : 4; bits <= 4; bits++) {
                int m = Math.max(2, bits);
                List<Integer> data = Check.packed(1 << m, m + 1, number, m + 1, (1 << m) + 1, m + 1);
                Check.due("pixel " + number + " of m " + m, Check.texts(rest(reel(bits, 1, 1, number))),
                    Check.texts(cut(m, data)));
            }
        }
    }

    private static void firstAndLastEntry() {
        Check.says("Terms", "others are ENTRIES, numbered on from C + 2 to 63, that stand for strings of pixels");
        for (int bits = 1; bits <= 4; bits++) {
            int m = Math.max(2, bits);
            codesDue("the first entry", reel(bits, 4, 1, 1, 0, 1, 0), m,
                new Codes(m).fresh().strings(1, 0, (1 << m) + 2).end());
        }
        int[] numbers = lastEntryMadeAndUsed();
        int[] codes = Arrays.copyOf(numbers, 47);
        codes[46] = 63;
        codesDue("the last entry", reel(4, 8, 6, numbers), 4, new Codes(4).fresh().strings(codes).end());
    }

    /** 46 codes of one pixel each, the last of them again twice: that is the entry of 63. */
    private static int[] lastEntryMadeAndUsed() {
        int[] numbers = Arrays.copyOf(differentPairs(16, 45), 48);
        // No 1 stands behind itself or the last number yet.
        Arrays.fill(numbers, 45, 48, 1);
        return numbers;
    }

    private static void noEntriesBehindAFreshOne() {
        Check.says("Terms", "Behind a fresh one there are no entries.");
        int[] numbers = new int[64];
        int[] pairs = differentPairs(16, 47);
        for (int i = 0; i < 64; i++) {
            numbers[i] = pairs[i % 47];
        }
        codesDue("pairs that were entries before", reel(4, 8, 8, numbers), 4, new Codes(4).fresh()
            .strings(Arrays.copyOf(numbers, 47)).fresh().strings(Arrays.copyOfRange(numbers, 47, 64)).end());
    }

    private static void whatMakesAnEntry() {
        Check.says("Terms", "Each code that stands for pixels, but the first one behind a fresh one, makes an"
            + " entry, when there is not yet that of 63: the string of the code before it, and the first pixel"
            + " of its own");
        // 6 is 0 1, 7 is 1 0, 8 is 0 1 2, 9 is 2 0, 10 is 0 1 2 0.
        codesDue("strings of two and three", reel(2, 6, 2, 0, 1, 0, 1, 2, 0, 1, 2, 0, 1, 2, 0), 2,
            new Codes(2).fresh().strings(0, 1, 6, 2, 8, 10).end());
    }

    private static void bitsOfCodes() {
        Check.says("Terms", "Each code (a fresh one and the end, too) has as many bits as the GREATEST that may"
            + " come at its place, written as a number, has: that is C + 1 right behind a fresh one and at the"
            + " beginning, otherwise the entry that a code which stands for pixels makes there");
        // The entries made are 6, 7, 8 .. 15, 16, 17: the bits grow with 8 and 16.
        int[] pairs = {0, 0, 1, 1, 2, 2, 3, 3, 0, 2, 0, 3, 1, 3, 2, 1};
        int[] packed = new int[2 * 18];
        for (int i = 0; i < 16; i++) {
            packed[2 * i + 2] = pairs[i];
            packed[2 * i + 3] = i < 3 ? 3 : i < 11 ? 4 : 5;
        }
        packed[0] = 4;
        packed[1] = 3;
        packed[34] = 5;
        packed[35] = 5;
        Check.due("m = 2", Check.texts(rest(reel(2, 4, 4, pairs))), Check.texts(cut(2, Check.packed(packed))));
        growing(3, 8);
        growing(4, 16);
    }

    /** One pixel for each code, so that the code at i makes the entry of C + 1 + i. */
    private static void growing(int m, int colours) {
        for (int[] size : SIZES) {
            int n = size[0] * size[1];
            int last = 62 - colours;
            if (n <= last) {
                int[] numbers = differentPairs(colours, n);
                int[] packed = new int[2 * n + 4];
                packed[0] = colours;
                packed[1] = m + 1;
                for (int i = 0; i < n; i++) {
                    packed[2 * i + 2] = numbers[i];
                    packed[2 * i + 3] = bitsOf(colours + 1 + i);
                }
                packed[2 * n + 2] = colours + 1;
                packed[2 * n + 3] = bitsOf(colours + 1 + n);
                Check.due("m = " + m + ", pixels " + n, Check.texts(rest(reel(m, size[0], size[1], numbers))),
                    Check.texts(cut(m, Check.packed(packed))));
            }
        }
    }

    private static int bitsOf(int greatest) {
        return greatest >= 32 ? 6 : greatest >= 16 ? 5 : greatest >= 8 ? 4 : 3;
    }

    private static void bitsOfFreshOneAndEnd() {
        Check.says("Terms", "and 63 when all entries are there");
        // For m = 3 the code at 54 makes 63, then a fresh one of 6 bits comes, a pixel and the end of 4.
        int[] numbers = differentPairs(8, 56);
        int[] packed = new int[2 * 59];
        for (int i = 0; i < 56; i++) {
            int at = 2 * (i < 55 ? i + 1 : i + 2);
            packed[at] = numbers[i];
            packed[at + 1] = i < 55 ? bitsOf(9 + i) : 4;
        }
        packed[0] = 8;
        packed[1] = 4;
        packed[112] = 8;
        packed[113] = 6;
        packed[116] = 9;
        packed[117] = 4;
        Check.due("a fresh one", Check.texts(rest(reel(3, 8, 7, numbers))), Check.texts(cut(3, Check.packed(packed))));
        // For m = 4 the code at 46 makes 63, and the end comes right behind.
        int[] made = lastEntryMadeAndUsed();
        int[] codes = new int[2 * 49];
        codes[0] = 16;
        codes[1] = 5;
        for (int i = 0; i < 47; i++) {
            codes[2 * i + 2] = i < 46 ? made[i] : 63;
            codes[2 * i + 3] = bitsOf(17 + i);
        }
        codes[96] = 17;
        codes[97] = 6;
        Check.due("the end", Check.texts(rest(reel(4, 8, 6, made))), Check.texts(cut(4, Check.packed(codes))));
    }

    // What is written

    private static void longestString() {
        Check.says("Terms", "WRITTEN are a fresh one, then again and again the code of the longest string that the"
            + " next pixels are");
        // 6 is 0 1, 7 is 1 0, 8 is 0 1 2: then 8 goes before 6, and 6 where no 2 follows.
        codesDue("the longer one", reel(2, 8, 1, 0, 1, 0, 1, 2, 0, 1, 2), 2,
            new Codes(2).fresh().strings(0, 1, 6, 2, 8).end());
        codesDue("the shorter one", reel(2, 8, 1, 0, 1, 0, 1, 2, 0, 1, 3), 2,
            new Codes(2).fresh().strings(0, 1, 6, 2, 6, 3).end());
        codesDue("as far as there are pixels", reel(2, 7, 1, 0, 1, 0, 1, 2, 0, 1), 2,
            new Codes(2).fresh().strings(0, 1, 6, 2, 6).end());
        codesDue("one pixel", reel(2, 1, 1, 2), 2, new Codes(2).fresh().strings(2).end());
    }

    private static void entryThatTheCodeMakes() {
        Check.says("Terms", "(that of the entry which it makes itself, too)");
        for (int[] size : SIZES) {
            int left = size[0] * size[1];
            Codes codes = new Codes(2).fresh();
            for (int length = 1; left > 0; length++) {
                int taken = Math.min(length, left);
                codes.strings(taken == 1 ? 1 : 4 + taken);
                left -= taken;
            }
            int[] ones = new int[size[0] * size[1]];
            Arrays.fill(ones, 1);
            codesDue("all the same", reel(1, size[0], size[1], ones), 2, codes.end());
        }
    }

    private static void freshOneWhenPixelsAreLeft() {
        Check.says("Terms", "behind one that makes the entry of 63 a fresh one, when pixels are left");
        int[] one = differentPairs(16, 48);
        codesDue("one pixel is left", reel(4, 8, 6, one), 4,
            new Codes(4).fresh().strings(Arrays.copyOf(one, 47)).fresh().strings(one[47]).end());
        int[] after = Arrays.copyOf(lastEntryMadeAndUsed(), 49);
        after[48] = 9;
        int[] codes = Arrays.copyOf(after, 47);
        codes[46] = 63;
        codesDue("one is left behind 63", reel(4, 7, 7, after), 4,
            new Codes(4).fresh().strings(codes).fresh().strings(9).end());
        int[] most = differentPairs(16, 64);
        codesDue("17 are left", reel(4, 8, 8, most), 4, new Codes(4).fresh()
            .strings(Arrays.copyOf(most, 47)).fresh().strings(Arrays.copyOfRange(most, 47, 64)).end());
    }

    private static void noFreshOneWhenNoneAreLeft() {
        Check.says("Terms", "and, behind all pixels, the end");
        int[] none = lastEntryMadeAndUsed();
        int[] codes = Arrays.copyOf(none, 47);
        codes[46] = 63;
        codesDue("none is left behind the one that makes 63", reel(4, 8, 6, none), 4,
            new Codes(4).fresh().strings(codes).end());
        // Two codes of two pixels, so the last one makes the entry of 62: 18 is the first pair.
        int[] fewer = Arrays.copyOf(differentPairs(16, 44), 48);
        for (int i = 44; i < 48; i++) {
            fewer[i] = fewer[i % 2];
        }
        int[] less = Arrays.copyOf(fewer, 46);
        less[44] = 18;
        less[45] = 18;
        codesDue("the one of 62 is the last", reel(4, 8, 6, fewer), 4, new Codes(4).fresh().strings(less).end());
    }

    private static void restOfTheLastByte() {
        Check.says("Terms", "What is left of the last byte is 0.");
        TreeSet<Integer> met = new TreeSet<>();
        for (int[] size : SIZES) {
            int n = size[0] * size[1];
            if (n <= 46) {
                // The greatest numbers, so that bits that were not put back to 0 would be seen.
                int[] numbers = differentPairs(16, n);
                Codes codes = new Codes(4).fresh().strings(numbers).end();
                List<Integer> bytes = codes.bytes();
                List<Integer> rest = rest(reel(4, size[0], size[1], numbers));
                int used = codes.bits() % 8;
                met.add(used);
                Check.due("the last byte, " + used + " bits of it used", rest.get(rest.size() - 2),
                    bytes.get(bytes.size() - 1));
                Check.due("what is left of it", used == 0 ? 0 : rest.get(rest.size() - 2) >> used, 0);
            }
        }
        for (int n = 1; n <= 8; n++) {
            met.add(new Codes(2).fresh().zeros(n).end().bits() % 8);
            int[] numbers = Arrays.copyOf(new int[] {3, 3, 2, 2, 1, 1, 0, 0}, n);
            codesDue("short data of " + n, reel(2, n, 1, numbers), 2, new Codes(2).fresh().strings(numbers).end());
        }
        Check.due("all rests were met", met.toString(), "[0, 1, 2, 3, 4, 5, 6, 7]");
    }

    // Promise 12

    private static void whatWasThereIsGone() {
        Check.says("Promise 12", "The bytes become those of the reel (what was there is gone)");
        PaletteReel x = new PaletteReel(1, 1);
        for (int i = 0; i < 100; i++) {
            x.feed(-1, 8);
        }
        Check.due("over 800", x.write(), 12);
        Check.due("the bytes", Check.bytes(x), "80 49 1 1 0 0 0 0 0 0 0 59");
        x.spoil(0, 1);
        x.feed(1, 1);
        Check.due("over others", x.write(), 12);
        Check.due("the bytes", Check.bytes(x), "80 49 1 1 0 0 0 0 0 0 0 59");
        PaletteReel y = Scene.some();
        y.write();
        Check.due("the reel stays", Check.reelState(y), Check.reelState(Scene.some()));
        Check.due("the canvas stays", Check.canvas(y), Check.canvas(Scene.some()));
        Check.due("the picture stays", Scene.picture(y), Scene.picture(Scene.some()));
    }

    private static void howManyBytes() {
        Check.says("Promise 12", "how many there are");
        Check.due("the shortest", new PaletteReel(1, 1).write(), 12);
        PaletteReel x = new PaletteReel(8, 8);
        x.palette(-1, 4);
        int[] numbers = differentPairs(16, 64);
        for (int f = 0; f < 4; f++) {
            x.frame(0, 0, 8, 8);
            x.palette(f, 4);
            for (int i = 0; i < 64; i++) {
                x.pixel(f, i % 8, i / 8, numbers[i]);
            }
        }
        Check.due("a long one", x.write(), 494);
        Check.due("its last byte", x.byteAt(493), 59);
        Check.due("none behind", x.byteAt(494), -1);
        Check.due("as wipe has it", x.wipe(), 494);
    }
}
