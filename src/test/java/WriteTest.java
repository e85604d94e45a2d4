import java.util.ArrayList;
import java.util.List;

/** Promise 12: the bytes that a reel is written to, code by code. */
public final class WriteTest {
    private static final List<Integer> HEAD = Check.list(80, 49, 8, 8, 0, 0, 0, 0, 0, 0, 0);
    private static final List<Integer> PLAIN = Check.list(33, 0, 0, 0);

    private WriteTest() {
    }

    public static void main(String[] args) {
        noFrames();
        settingsAndHead();
        bitsOfPalettes();
        shortData();
        oneColour();
        wovenRows();
        allEntriesAndPixelsLeft();
        allEntriesAndNoPixelsLeft();
        fullBlocks();
        whatWasThereIsGone();
        largestReel();
        Check.end();
    }

    private static void written(String what, PaletteReel reel, List<Integer> due) {
        Check.due(what + ": how many", reel.write(), due.size());
        Check.due(what, Check.bytes(reel), Check.texts(due));
        Check.due(what + ": none behind", reel.byteAt(due.size()), -1);
    }

    private static List<Integer> single(int... head) {
        return Check.join(HEAD, PLAIN, Check.list(head));
    }

    private static void noFrames() {
        PaletteReel x = new PaletteReel(3, 7);
        written("no frames", x, Check.list(80, 49, 3, 7, 0, 0, 0, 0, 0, 0, 0, 59));
        x.palette(-1, 2);
        x.colour(-1, 1, 0x010203);
        x.colour(-1, 3, 0xFFFEFD);
        written("four colours", x, Check.list(80, 49, 3, 7, 1, 0, 0, 0, 1, 2, 3, 0, 0, 0, 255, 254, 253, 59));
        x.palette(-1, 3);
        Check.due("eight colours", x.write(), 30);
        Check.due("their number", x.byteAt(4), 2);
        x.palette(-1, 4);
        Check.due("sixteen colours", x.write(), 54);
        Check.due("their number", x.byteAt(4), 3);
    }

    private static void settingsAndHead() {
        PaletteReel x = new PaletteReel(8, 8);
        x.frame(3, 4, 1, 1);
        x.frame(7, 0, 1, 1);
        x.set(0, 2, 250, 0, true);
        x.palette(1, 1);
        x.colour(1, 1, 0x0A0B0C);
        x.set(1, 3, 7, 1, false);
        List<Integer> data = Check.join(Check.list(2), Check.block(Check.packed(4, 3, 0, 3, 5, 3)), Check.list(0));
        written("settings", x, Check.join(HEAD, Check.list(33, 18, 250, 0, 44, 3, 4, 1, 1, 1), data,
            Check.list(33, 19, 7, 1, 44, 7, 0, 1, 1, 2, 0, 0, 0, 10, 11, 12), data, Check.list(59)));
        x.set(1, 1, 0, -1, true);
        x.write();
        Check.due("no clear number", x.byteAt(27) * 100 + x.byteAt(29), 100);
        Check.due("woven, with a palette", x.byteAt(35), 3);
    }

    private static void bitsOfPalettes() {
        int[] m = {0, 2, 2, 3, 4};
        for (int bits = 1; bits <= 4; bits++) {
            PaletteReel x = new PaletteReel(1, 1);
            x.palette(-1, bits);
            x.frame(0, 0, 1, 1);
            x.write();
            Check.due("m by the reel's palette", x.byteAt(5 + 3 * (1 << bits) + 10), m[bits]);
            PaletteReel y = new PaletteReel(1, 1);
            y.palette(-1, 5 - bits);
            y.frame(0, 0, 1, 1);
            y.palette(0, bits);
            y.write();
            int at = 5 + 3 * (1 << 5 - bits) + 9;
            Check.due("flags of its own palette", y.byteAt(at), 2 + 4 * (bits - 1));
            Check.due("m by its own palette", y.byteAt(at + 1 + 3 * (1 << bits)), m[bits]);
        }
    }

    private static void shortData() {
        PaletteReel x = new PaletteReel(8, 8);
        x.frame(0, 0, 3, 2);
        x.palette(0, 2);
        int[] numbers = {1, 1, 1, 2, 3, 0};
        fill(x, numbers);
        List<Integer> palette = new ArrayList<>(List.of(0, 0, 0, 0, 0, 0, 0, 0, 0, 0, 0, 0));
        written("1 1 1 2 3 0", x, Check.join(single(44, 0, 0, 3, 2, 6), palette,
            Check.list(2, 3, 140, 53, 80, 0, 59)));
    }

    private static void fill(PaletteReel reel, int[] numbers) {
        int width = reel.get(0, 2);
        for (int i = 0; i < numbers.length; i++) {
            reel.pixel(0, i % width, i / width, numbers[i]);
        }
    }

    /** Each code is that of the entry which it makes itself, the last but the end is not. */
    private static void oneColour() {
        PaletteReel x = new PaletteReel(8, 8);
        x.frame(0, 0, 8, 8);
        List<Integer> data = Check.packed(4, 3, 0, 3, 6, 3, 7, 3, 8, 4, 9, 4, 10, 4, 11, 4, 12, 4, 13, 4,
            14, 4, 13, 4, 5, 5);
        written("64 times 0", x, Check.join(single(44, 0, 0, 8, 8, 0, 2), Check.block(data), Check.list(0, 59)));
    }

    private static void wovenRows() {
        int[][] orders = {{}, {0}, {0, 1}, {0, 2, 1}, {0, 2, 1, 3}, {0, 4, 2, 1, 3}, {0, 4, 2, 1, 3, 5},
            {0, 4, 2, 6, 1, 3, 5}, {0, 4, 2, 6, 1, 3, 5, 7}};
        for (int height = 1; height <= 8; height++) {
            PaletteReel x = new PaletteReel(1, 1);
            x.palette(-1, 3);
            x.frame(0, 0, 1, height);
            x.set(0, 0, 0, -1, true);
            int[] codes = new int[2 * height + 4];
            codes[0] = 8;
            codes[1] = 4;
            for (int i = 0; i < height; i++) {
                x.pixel(0, 0, i, i);
                codes[2 * i + 2] = orders[height][i];
                codes[2 * i + 3] = i == 7 ? 5 : 4;
            }
            codes[2 * height + 2] = 9;
            codes[2 * height + 3] = height >= 7 ? 5 : 4;
            x.write();
            List<Integer> data = Check.block(Check.packed(codes));
            for (int k = 0; k < data.size(); k++) {
                Check.due("woven rows of " + height + ", byte " + k, x.byteAt(40 + k), data.get(k));
            }
        }
    }

    /** Numbers of which no two stand behind one another a second time. */
    private static int[] differentPairs(int n) {
        int[] numbers = new int[n];
        for (int i = 1; i < n; i++) {
            numbers[i] = (numbers[i - 1] + 1 + 2 * ((i - 1) / 16)) % 16;
        }
        return numbers;
    }

    private static PaletteReel sixteen(int width, int height, int[] numbers) {
        PaletteReel x = new PaletteReel(8, 8);
        x.palette(-1, 4);
        x.frame(0, 0, width, height);
        fill(x, numbers);
        return x;
    }

    /** What is written behind the head of such a reel. */
    private static void data(String what, PaletteReel x, List<Integer> due) {
        Check.due(what + ": how many", x.write(), 5 + 48 + 10 + 1 + due.size() + 1);
        List<Integer> got = new ArrayList<>();
        for (int k = 64; k < 64 + due.size(); k++) {
            got.add(x.byteAt(k));
        }
        Check.due(what, Check.texts(got), Check.texts(due));
    }

    private static int bitsOfMade(int entry) {
        return entry < 32 ? 5 : 6;
    }

    private static void allEntriesAndPixelsLeft() {
        int[] numbers = differentPairs(64);
        int[] codes = new int[2 * 67];
        int at = 0;
        for (int i = 0; i < 64; i++) {
            if (i == 0 || i == 47) {
                codes[at++] = 16;
                codes[at++] = i == 0 ? 5 : 6;
            }
            codes[at++] = numbers[i];
            codes[at++] = bitsOfMade(17 + (i < 47 ? i : i - 47));
        }
        codes[at++] = 17;
        codes[at++] = bitsOfMade(17 + 17);
        List<Integer> data = Check.packed(codes);
        Check.due("three blocks", data.size(), 47);
        data("all entries", sixteen(8, 8, numbers), Check.join(Check.block(data.subList(0, 20)),
            Check.block(data.subList(20, 40)), Check.block(data.subList(40, 47)), Check.list(0)));
    }

    private static void allEntriesAndNoPixelsLeft() {
        int[] numbers = differentPairs(48);
        numbers[47] = (numbers[46] + 1) % 16;
        int[] codes = new int[2 * 49];
        codes[0] = 16;
        codes[1] = 5;
        for (int i = 0; i < 47; i++) {
            codes[2 * i + 2] = i < 46 ? numbers[i] : 18 + numbers[46];
            codes[2 * i + 3] = bitsOfMade(17 + i);
        }
        codes[96] = 17;
        codes[97] = 6;
        List<Integer> data = Check.packed(codes);
        data("the entry of 63 at the end", sixteen(8, 6, numbers), Check.join(Check.block(data.subList(0, 20)),
            Check.block(data.subList(20, data.size())), Check.list(0)));
    }

    private static void fullBlocks() {
        int[] numbers = differentPairs(28);
        int[] codes = new int[2 * 30];
        codes[0] = 16;
        codes[1] = 5;
        for (int i = 0; i < 28; i++) {
            codes[2 * i + 2] = numbers[i];
            codes[2 * i + 3] = bitsOfMade(17 + i);
        }
        codes[58] = 17;
        codes[59] = 6;
        List<Integer> data = Check.packed(codes);
        data("21 bytes", sixteen(7, 4, numbers), Check.join(Check.list(20), data.subList(0, 20),
            Check.list(1, data.get(20), 0)));
        numbers[27] = (numbers[26] + 1) % 16;
        codes[54] = 18 + numbers[26];
        codes[56] = 17;
        codes[57] = 6;
        codes[59] = 0;
        List<Integer> less = Check.packed(codes);
        data("just 20 bytes", sixteen(7, 4, numbers), Check.join(Check.list(20), less, Check.list(0)));
    }

    private static void whatWasThereIsGone() {
        PaletteReel x = new PaletteReel(8, 8);
        for (int i = 0; i < 100; i++) {
            x.feed(-1, 8);
        }
        written("over 800 bytes", x, Check.join(HEAD, Check.list(59)));
        written("again", x, Check.join(HEAD, Check.list(59)));
        Check.due("it can be fed on", x.feed(1, 1), 13);
    }

    private static void largestReel() {
        PaletteReel x = sixteen(8, 8, differentPairs(64));
        for (int f = 0; f < 4; f++) {
            if (f > 0) {
                x.frame(0, 0, 8, 8);
            }
            x.palette(f, 4);
            for (int i = 0; i < 64; i++) {
                x.pixel(f, i % 8, i / 8, differentPairs(64)[i]);
            }
        }
        Check.due("the largest reel", x.write(), 53 + 4 * (4 + 6 + 48 + 1 + 47 + 3 + 1) + 1);
        Check.due("its last byte", x.byteAt(493), 59);
        Check.due("it can be read", x.read(), 4);
    }
}
