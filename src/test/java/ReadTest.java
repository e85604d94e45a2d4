import java.util.ArrayList;
import java.util.Collections;
import java.util.List;

/** Promise 17: bytes that are read, and bytes that are not well formed. */
public final class ReadTest {
    private static final List<Integer> HEAD = Check.list(80, 49, 3, 2, 0, 1, 2, 3, 4, 5, 6);
    private static final List<Integer> SETTINGS = Check.list(33, 1, 9, 0);
    private static final List<Integer> PLACE = Check.list(44, 2, 1, 2, 1, 0);
    // The pixels 1 0 in codes of m = 2.
    private static final List<Integer> DATA = Check.join(Check.list(2),
        Check.block(Check.packed(4, 3, 1, 3, 0, 3, 5, 3)), Check.list(0));
    private static final List<Integer> FRAME = Check.join(PLACE, DATA);
    private static final List<Integer> LAST = Check.list(59);
    private static final List<Integer> NOTHING = Check.list();
    private static final String READ = " [-1: 0 0 3 2 2 0 0 0 0 10203 40506 ]";

    private ReadTest() {
    }

    public static void main(String[] args) {
        ordinary();
        whatWasWritten();
        headWrongly();
        comments();
        settings();
        settingsWrongly();
        placesAndFlags();
        palettes();
        bitsOfCodes();
        blocks();
        blocksWrongly();
        codes();
        codesWrongly();
        codesWhenAllEntriesAreThere();
        numbersOfPixels();
        numbersOfFrames();
        ends();
        pictureAndCanvas();
        Check.end();
    }

    private static PaletteReel reads(String what, List<Integer> bytes, int frames) {
        PaletteReel x = new PaletteReel(8, 1);
        Check.give(x, bytes);
        int[] got = {-9};
        Check.fine("reading " + what, () -> got[0] = x.read());
        Check.due(what, got[0], frames);
        // More of them would take more calls than an object is used for.
        if (bytes.size() <= 200) {
            Check.due("the bytes stay", Check.bytes(x), Check.texts(bytes));
        }
        return x;
    }

    private static void refuses(String what, List<Integer> bytes) {
        PaletteReel x = new PaletteReel(2, 2);
        x.palette(-1, 2);
        x.colour(-1, 3, 7);
        x.frame(1, 0, 2, 2);
        x.pixel(0, 0, 1, 3);
        x.set(0, 1, 2, 3, true);
        x.draw(1);
        x.paint(1, 1, 5);
        Check.give(x, bytes);
        String before = Check.reelState(x) + Check.canvas(x);
        Check.noArgument(what, () -> x.read());
        Check.due("nothing is changed by " + what, Check.reelState(x) + Check.canvas(x), before);
        if (bytes.size() <= 200) {
            Check.due("the bytes stay", Check.bytes(x), Check.texts(bytes));
        }
        x.reduce(2, 0);
        Check.due("nor is the picture", Check.pixels(x, 1) + x.colourAt(1, 1), "00/015");
    }

    private static List<Integer> reel(List<Integer> between) {
        return Check.join(HEAD, between, LAST);
    }

    private static List<Integer> changed(List<Integer> bytes, int k, int value) {
        List<Integer> made = new ArrayList<>(bytes);
        made.set(k, value);
        return made;
    }

    private static void ordinary() {
        PaletteReel x = reads("a reel", reel(Check.join(SETTINGS, FRAME)), 1);
        Check.due("what it is", Check.reelState(x), READ + " [0: 2 1 2 1 0 1 9 -1 0 10203 40506 10]");
        PaletteReel y = reads("no frames", reel(NOTHING), 0);
        Check.due("what it is", Check.reelState(y), READ);
        Check.due("what is written then", y.write(), 12);
        Check.give(y, reel(FRAME));
        Check.due("again", y.read(), 1);
        Check.give(y, reel(NOTHING));
        Check.due("the frames before are gone", y.read(), 0);
        Check.due("none", y.frames(), 0);
    }

    private static PaletteReel fourFrames() {
        PaletteReel x = new PaletteReel(5, 4);
        x.palette(-1, 3);
        x.colour(-1, 7, 0xABCDEF);
        for (int f = 0; f < 4; f++) {
            x.frame(f, 7 - f, 8 - f, 5 + f);
            if (f % 2 == 1) {
                x.palette(f, f + 1);
                x.colour(f, 3, f);
            }
            for (int i = 0; i < 35; i++) {
                x.pixel(f, i % (8 - f), i / (8 - f), i * i % 7 % (f == 1 ? 4 : 8));
            }
            x.set(f, f, 60 * f, f - 1, f > 1);
        }
        return x;
    }

    private static void whatWasWritten() {
        String before = Check.reelState(fourFrames());
        PaletteReel x = fourFrames();
        int length = x.write();
        List<Integer> bytes = new ArrayList<>();
        for (int k = 0; k < length; k++) {
            bytes.add(x.byteAt(k));
        }
        PaletteReel y = new PaletteReel(1, 1);
        Check.give(y, bytes);
        Check.due("frames", y.read(), 4);
        Check.due("the same", Check.reelState(y), before);
        PaletteReel z = fourFrames();
        z.write();
        Check.due("read where it was written", z.read(), 4);
        Check.due("the same", Check.reelState(z), before);
    }

    private static void headWrongly() {
        List<Integer> good = reel(FRAME);
        int[][] wrong = {{0, 81}, {0, 79}, {1, 48}, {1, 50}, {2, 0}, {2, 9}, {2, 255}, {3, 0}, {3, 9},
            {4, 4}, {4, 255}, {4, 1}};
        for (int[] w : wrong) {
            refuses("byte " + w[0] + " is " + w[1], changed(good, w[0], w[1]));
        }
        for (int n = 0; n < good.size(); n++) {
            refuses(n + " bytes of it", good.subList(0, n));
        }
        reads("the greatest reel", changed(changed(good, 2, 8), 3, 8), 1);
        reads("the least reel", changed(changed(good, 2, 1), 3, 1), 1);
    }

    private static void comments() {
        List<Integer> empty = Check.list(254, 0);
        List<Integer> two = Check.list(254, 3, 59, 44, 33, 1, 254, 0);
        List<Integer> longest = Check.join(Check.list(254, 255), Collections.nCopies(255, 44), Check.list(0));
        String due = READ + " [0: 2 1 2 1 0 1 9 -1 0 10203 40506 10]";
        PaletteReel x = reads("comments everywhere",
            reel(Check.join(empty, two, SETTINGS, two, empty, FRAME, longest, empty)), 1);
        Check.due("what it is", Check.reelState(x), due);
        reads("comments alone", reel(Check.join(two, longest, empty)), 0);
        refuses("a comment without its 0", Check.join(HEAD, Check.list(254, 1, 59)));
        refuses("a comment that is cut", Check.join(HEAD, Check.list(254, 3, 0), LAST));
        refuses("a comment in the settings", reel(Check.join(Check.list(33, 254, 0, 1, 9, 0), FRAME)));
        refuses("a comment before the data", reel(Check.join(PLACE, empty, DATA)));
        refuses("a comment that takes all bytes",
            Check.join(HEAD, Check.list(254, 255), Collections.nCopies(200, 1)));
    }

    private static void settings() {
        String[] states = {" [0: 2 1 2 1 0 0 0 -1 0 10203 40506 10]", " [0: 2 1 2 1 0 3 255 1 0 10203 40506 10]",
            " [0: 2 1 2 1 0 2 4 -1 0 10203 40506 10]"};
        Check.due("none", Check.reelState(reads("none", reel(FRAME), 1)), READ + states[0]);
        List<Integer> clear = Check.list(33, 19, 255, 1);
        List<Integer> any = Check.list(33, 2, 4, 200);
        List<Integer> wild = Check.list(33, 16, 0, 99);
        Check.due("one", Check.reelState(reads("one", reel(Check.join(clear, FRAME)), 1)), READ + states[1]);
        Check.due("any third byte", Check.reelState(reads("any third byte", reel(Check.join(any, FRAME)), 1)),
            READ + states[2]);
        Check.due("the last counts", Check.reelState(reads("several",
            reel(Check.join(wild, any, Check.list(254, 0), wild, clear, FRAME)), 1)), READ + states[1]);
        Check.due("the last has no clear number", Check.reelState(reads("several",
            reel(Check.join(wild, clear, any, Check.list(254, 0), FRAME)), 1)), READ + states[2]);
        Check.due("only for one frame", Check.reelState(reads("two frames",
            reel(Check.join(clear, FRAME, FRAME)), 2)), READ + states[1]
                + " [1: 2 1 2 1 0 0 0 -1 0 10203 40506 10]");
        Check.due("behind the last frame", Check.reelState(reads("behind the last frame",
            reel(Check.join(any, FRAME, wild, clear, wild)), 1)), READ + states[2]);
        reads("without a frame", reel(Check.join(clear, wild, any, wild)), 0);
    }

    private static void settingsWrongly() {
        int[] wrong = {4, 5, 8, 15, 20, 23, 32, 33, 64, 128, 255};
        for (int first : wrong) {
            refuses("disposal " + first, reel(Check.join(Check.list(33, first, 0, 0), FRAME)));
            refuses("disposal " + first + " that does not count",
                reel(Check.join(Check.list(33, first, 0, 0), SETTINGS, FRAME)));
            refuses("disposal " + first + " behind the last frame",
                reel(Check.join(FRAME, Check.list(33, first, 0, 0))));
        }
        int[] right = {0, 1, 2, 3, 16, 17, 18, 19};
        for (int first : right) {
            PaletteReel x = reads("disposal " + first, reel(Check.join(Check.list(33, first, 0, 0), FRAME)), 1);
            Check.due("disposal", x.get(0, 5), first % 16);
            Check.due("clear number", x.get(0, 7), first < 16 ? -1 : 0);
        }
        refuses("clear number 2 of 2", reel(Check.join(Check.list(33, 16, 0, 2), FRAME)));
        refuses("clear number 255", reel(Check.join(Check.list(33, 16, 0, 255), FRAME)));
        refuses("settings that are cut", Check.join(HEAD, Check.list(33, 0, 0), LAST));
    }

    private static void placesAndFlags() {
        List<Integer> good = reel(FRAME);
        int[][] wrong = {{11, 45}, {11, 0}, {12, 8}, {12, 255}, {13, 8}, {14, 0}, {14, 9}, {15, 0}, {15, 9},
            {14, 1}, {14, 3}, {15, 2}, {16, 4}, {16, 5}, {16, 8}, {16, 9}, {16, 12}, {16, 13}, {16, 16},
            {16, 17}, {16, 32}, {16, 128}, {16, 2}};
        for (int[] w : wrong) {
            refuses("byte " + w[0] + " is " + w[1], changed(good, w[0], w[1]));
        }
        PaletteReel x = reads("at 7, 7", changed(changed(good, 12, 7), 13, 7), 1);
        Check.due("left and top", x.get(0, 0) * 10 + x.get(0, 1), 77);
        Check.due("woven", reads("woven", changed(good, 16, 1), 1).get(0, 8), 1);
        List<Integer> rows = Check.join(Check.list(44, 0, 0, 1, 3, 1, 2),
            Check.block(Check.packed(4, 3, 0, 3, 1, 3, 1, 3, 5, 4)), Check.list(0));
        Check.due("woven rows", Check.pixels(reads("woven rows", reel(rows), 1), 0), "0/1/1");
        List<Integer> other = Check.join(Check.list(44, 0, 0, 1, 3, 1, 2),
            Check.block(Check.packed(4, 3, 0, 3, 1, 3, 0, 3, 5, 4)), Check.list(0));
        Check.due("woven rows", Check.pixels(reads("woven rows", reel(other), 1), 0), "0/0/1");
    }

    private static void palettes() {
        for (int bits = 1; bits <= 4; bits++) {
            List<Integer> colours = new ArrayList<>();
            for (int k = 0; k < 3 << bits; k++) {
                colours.add(3 + 5 * k);
            }
            List<Integer> head = Check.list(44, 0, 0, 2, 1, 2 + 4 * (bits - 1));
            PaletteReel x = reads("its own palette", reel(Check.join(head, colours, DATA)), 1);
            Check.due("its colours", x.get(0, 4), 1 << bits);
            int last = 3 + 15 * ((1 << bits) - 1);
            Check.due("the last of them", x.colourAt(0, (1 << bits) - 1),
                last * 65536 + (last + 5) * 256 + last + 10);
            int greatest = (1 << bits) - 1;
            List<Integer> clears = Check.list(33, 16, 0, greatest);
            reads("a clear number of its own", reel(Check.join(clears, head, colours, DATA)), 1);
            refuses("one that is none", reel(Check.join(changed(clears, 3, greatest + 1), head, colours, DATA)));
            List<Integer> own = Check.list(80, 49, 1, 1, bits - 1);
            reads("the reel's palette", Check.join(own, colours, FRAME, LAST), 1);
            refuses("one colour less", Check.join(own, colours.subList(3, colours.size()), FRAME, LAST));
        }
    }

    private static List<Integer> frameOf(int width, int height, int m, int... codes) {
        return Check.join(Check.list(44, 0, 0, width, height, 0, m), Check.block(Check.packed(codes)), Check.list(0));
    }

    private static void bitsOfCodes() {
        reads("m = 2", reel(frameOf(2, 1, 2, 4, 3, 1, 3, 0, 3, 5, 3)), 1);
        PaletteReel x = reads("m = 3", reel(frameOf(2, 1, 3, 8, 4, 1, 4, 0, 4, 9, 4)), 1);
        Check.due("its pixels", Check.pixels(x, 0), "10");
        PaletteReel y = reads("m = 4", reel(frameOf(2, 1, 4, 16, 5, 1, 5, 0, 5, 17, 5)), 1);
        Check.due("its pixels", Check.pixels(y, 0), "10");
        refuses("m = 1", reel(frameOf(2, 1, 1, 2, 2, 1, 2, 0, 3, 3, 3)));
        refuses("m = 5", reel(frameOf(2, 1, 5, 32, 6, 1, 6, 0, 6, 33, 6)));
        refuses("m = 0", reel(frameOf(1, 1, 0, 1, 2, 0, 2, 2, 2)));
        refuses("m = 255", changed(reel(FRAME), 17, 255));
        refuses("pixel 2 of 2 colours", reel(frameOf(2, 1, 2, 4, 3, 2, 3, 0, 3, 5, 3)));
        refuses("pixel 15 of 2 colours", reel(frameOf(2, 1, 4, 16, 5, 1, 5, 15, 5, 17, 5)));
        List<Integer> four = Check.join(Check.list(80, 49, 1, 1, 1), Collections.nCopies(12, 0));
        reads("pixel 3 of 4", Check.join(four, frameOf(1, 1, 4, 16, 5, 3, 5, 17, 5), LAST), 1);
        refuses("pixel 4 of 4", Check.join(four, frameOf(1, 1, 4, 16, 5, 4, 5, 17, 5), LAST));
        List<Integer> sixteen = Check.join(Check.list(80, 49, 1, 1, 3), Collections.nCopies(48, 0));
        PaletteReel z = reads("m less than needed", Check.join(sixteen, frameOf(1, 1, 2, 4, 3, 3, 3, 5, 3), LAST), 1);
        Check.due("its pixel", z.pixelAt(0, 0, 0), 3);
    }

    private static void blocks() {
        List<Integer> codes = Check.packed(4, 3, 1, 3, 0, 3, 5, 3);
        List<Integer> place = Check.join(PLACE, Check.list(2));
        reads("blocks of one byte", reel(Check.join(place,
            Check.list(1, codes.get(0), 1, codes.get(1), 0))), 1);
        PaletteReel x = reads("bits left behind the end", reel(Check.join(place,
            Check.list(2, codes.get(0), codes.get(1) | 0xF0, 0))), 1);
        Check.due("its pixels", Check.pixels(x, 0), "10");
        reads("bytes left behind the end", reel(Check.join(place,
            Check.list(5, codes.get(0), codes.get(1), 59, 44, 255, 0))), 1);
        reads("a block of 255", reel(Check.join(place, Check.list(255), codes,
            Collections.nCopies(253, 7), Check.list(0))), 1);
        List<Integer> whole = Check.packed(4, 3, 4, 3, 1, 3, 0, 3, 4, 3, 4, 3, 4, 3, 5, 3);
        Check.due("the end has the last bit", whole.size(), 3);
        reads("a code over two blocks", reel(Check.join(place,
            Check.list(1, whole.get(0), 2, whole.get(1), whole.get(2), 0))), 1);
        reads("the end has the last bit of its block", reel(Check.join(place, Check.list(3), whole, Check.list(0))), 1);
        refuses("a block behind it", reel(Check.join(place, Check.list(3), whole, Check.list(1, 0, 0))));
    }

    private static void blocksWrongly() {
        List<Integer> codes = Check.packed(4, 3, 1, 3, 0, 3, 5, 3);
        List<Integer> place = Check.join(PLACE, Check.list(2));
        refuses("no block", reel(Check.join(place, Check.list(0))));
        refuses("the blocks end before the end", reel(Check.join(place, Check.list(1, codes.get(0), 0))));
        refuses("a 0 between the blocks", reel(Check.join(place, Check.list(1, codes.get(0), 0, 1, codes.get(1), 0))));
        refuses("a block behind the end", reel(Check.join(place, Check.block(codes), Check.list(1, 0, 0))));
        refuses("a block as the end's, behind it",
            reel(Check.join(place, Check.block(codes), Check.block(codes), Check.list(0))));
        refuses("no 0 behind", reel(Check.join(place, Check.block(codes))));
        refuses("a block longer than the bytes", reel(Check.join(place, Check.list(200), codes, Check.list(0))));
        refuses("data without an end", reel(Check.join(place,
            Check.block(Check.packed(4, 3, 1, 3, 0, 3, 4, 3)), Check.list(0))));
    }

    private static void codes() {
        PaletteReel x = reads("codes that are not the longest", reel(frameOf(6, 1, 2,
            4, 3, 1, 3, 1, 3, 1, 3, 6, 4, 1, 4, 5, 4)), 1);
        Check.due("its pixels", Check.pixels(x, 0), "111111");
        PaletteReel y = reads("the entry that the code makes", reel(frameOf(8, 1, 2,
            4, 3, 1, 3, 0, 3, 7, 3, 8, 4, 1, 4, 5, 4)), 1);
        Check.due("its pixels", Check.pixels(y, 0), "10000001");
        PaletteReel z = reads("fresh ones anywhere", reel(frameOf(4, 1, 2,
            4, 3, 4, 3, 4, 3, 1, 3, 4, 3, 0, 3, 1, 3, 4, 3, 4, 3, 0, 3, 4, 3, 5, 3)), 1);
        Check.due("its pixels", Check.pixels(z, 0), "1010");
        PaletteReel w = reads("an entry again and again", reel(frameOf(8, 1, 2,
            4, 3, 1, 3, 0, 3, 6, 3, 6, 4, 6, 4, 5, 4)), 1);
        Check.due("its pixels", Check.pixels(w, 0), "10101010");
        int[] fresh = new int[2 * 2000];
        for (int i = 0; i < 2000; i++) {
            fresh[2 * i] = i < 1998 ? 4 : i == 1998 ? 1 : 5;
            fresh[2 * i + 1] = 3;
        }
        List<Integer> all = Check.packed(fresh);
        Check.due("750 bytes", all.size(), 750);
        PaletteReel v = reads("some two thousand fresh ones", reel(Check.join(Check.list(44, 0, 0, 1, 1, 0, 2),
            Check.block(all.subList(0, 255)), Check.block(all.subList(255, 510)),
            Check.block(all.subList(510, 750)), Check.list(0))), 1);
        Check.due("its pixel", v.pixelAt(0, 0, 0), 1);
    }

    private static void codesWrongly() {
        refuses("the first code is none fresh", reel(frameOf(2, 1, 2, 1, 3, 0, 3, 5, 3)));
        refuses("the first code is the end", reel(frameOf(1, 1, 2, 5, 3)));
        refuses("an entry right behind a fresh one", reel(frameOf(2, 1, 2, 4, 3, 6, 3, 5, 3)));
        refuses("the entry behind the one it makes", reel(frameOf(4, 1, 2, 4, 3, 1, 3, 7, 3, 1, 3, 5, 4)));
        refuses("an entry from before a fresh one",
            reel(frameOf(6, 1, 2, 4, 3, 1, 3, 1, 3, 4, 3, 6, 3, 1, 3, 1, 3, 5, 4)));
        refuses("an entry that is not there yet", reel(frameOf(4, 1, 2, 4, 3, 1, 3, 1, 3, 1, 3, 9, 4, 5, 4)));
        refuses("too few bits for the end", reel(frameOf(3, 1, 2, 4, 3, 1, 3, 1, 3, 1, 3, 5, 3, 1, 1)));
        refuses("too many bits for a code", reel(frameOf(3, 1, 2, 4, 3, 1, 3, 1, 4, 1, 3, 5, 4)));
    }

    /** With m = 2: 59 codes of one pixel make all entries, then codes of 6 bits go on. */
    private static void codesWhenAllEntriesAreThere() {
        afterAllEntries("single pixels", "10100", 1, 6, 0, 6, 1, 6, 0, 6, 0, 6, 5, 6);
        // 63 is the pixels 57 and 58.
        afterAllEntries("the last entry", "10110", 63, 6, 1, 6, 63, 6, 5, 6);
        afterAllEntries("a fresh one", "11110", 4, 6, 1, 3, 1, 3, 6, 3, 0, 4, 5, 4);
    }

    private static void afterAllEntries(String what, String due, int... rest) {
        int[] codes = new int[2 * 60 + rest.length];
        codes[0] = 4;
        codes[1] = 3;
        StringBuilder first = new StringBuilder();
        for (int i = 0; i < 59; i++) {
            int entry = 5 + i;
            codes[2 * i + 2] = i % 3 == 0 ? 1 : 0;
            codes[2 * i + 3] = entry < 8 ? 3 : entry < 16 ? 4 : entry < 32 ? 5 : 6;
            first.append(codes[2 * i + 2]);
        }
        System.arraycopy(rest, 0, codes, 120, rest.length);
        PaletteReel x = reads(what, reel(frameOf(8, 8, 2, codes)), 1);
        Check.due(what + " behind all entries", Check.pixels(x, 0).replace("/", ""), first + due);
    }

    private static void numbersOfPixels() {
        refuses("one pixel less", reel(frameOf(3, 1, 2, 4, 3, 1, 3, 0, 3, 5, 3)));
        refuses("one pixel more", reel(frameOf(1, 1, 2, 4, 3, 1, 3, 0, 3, 5, 3)));
        refuses("no pixel", reel(frameOf(1, 1, 2, 4, 3, 5, 3)));
        refuses("no pixel and no width", reel(frameOf(0, 1, 2, 4, 3, 5, 3)));
        refuses("no pixel and no height", reel(frameOf(1, 0, 2, 4, 3, 5, 3)));
        refuses("a string that goes beyond", reel(frameOf(2, 1, 2, 4, 3, 1, 3, 6, 3, 5, 3)));
        int[] many = new int[2 * 202];
        for (int i = 0; i < 202; i++) {
            many[2 * i] = i % 2 == 0 ? 4 : 1;
            many[2 * i + 1] = 3;
        }
        many[402] = 5;
        refuses("a hundred pixels", reel(frameOf(8, 8, 2, many)));
    }

    private static void numbersOfFrames() {
        reads("four frames", reel(Check.join(FRAME, FRAME, FRAME, FRAME, SETTINGS)), 4);
        refuses("five frames", reel(Check.join(FRAME, FRAME, FRAME, FRAME, FRAME)));
        refuses("five frames with settings", reel(Check.join(FRAME, FRAME, FRAME, FRAME, SETTINGS, FRAME)));
    }

    private static void ends() {
        refuses("no bytes", NOTHING);
        refuses("no 59", Check.join(HEAD, FRAME));
        refuses("one byte behind 59", Check.join(HEAD, FRAME, LAST, Check.list(0)));
        refuses("59 twice", Check.join(HEAD, FRAME, LAST, LAST));
        refuses("a comment behind 59", Check.join(HEAD, FRAME, LAST, Check.list(254, 0)));
        int[] marks = {0, 1, 32, 34, 43, 45, 58, 60, 80, 253, 255};
        for (int mark : marks) {
            refuses("a mark " + mark, reel(Check.join(Check.list(mark), FRAME)));
        }
        List<Integer> most = Check.join(HEAD, Check.list(254));
        most.addAll(Collections.nCopies(786, 1));
        most.addAll(List.of(0, 59));
        Check.due("as many as there may be", most.size(), 800);
        reads("800 bytes", most, 0);
        refuses("800 bytes without an end", Check.join(HEAD, Collections.nCopies(789, 33)));
        refuses("800 bytes that end in a comment", Check.join(HEAD, Check.list(254), Collections.nCopies(788, 1)));
        List<Integer> settings = new ArrayList<>();
        for (int i = 0; i < 197; i++) {
            settings.addAll(SETTINGS);
        }
        reads("as many settings as there is room for", reel(settings), 0);
        List<Integer> comments = new ArrayList<>();
        for (int i = 0; i < 394; i++) {
            comments.addAll(List.of(254, 0));
        }
        reads("as many comments as there is room for", reel(comments), 0);
    }

    private static void pictureAndCanvas() {
        PaletteReel x = new PaletteReel(3, 2);
        x.paint(2, 1, 77);
        x.frame(0, 0, 8, 8);
        x.draw(1);
        Check.give(x, reel(NOTHING));
        x.read();
        Check.due("NONE after read", Check.canvas(x), "- - -/- - -");
        x.reduce(2, 0);
        Check.due("the picture stays when it is as large", Check.pixels(x, 0), "000/001");
        Check.due("its colour", x.colourAt(0, 1), 77);
        for (int side = 2; side <= 3; side++) {
            PaletteReel y = new PaletteReel(3, 2);
            y.paint(0, 0, 77);
            Check.give(y, changed(reel(NOTHING), side, 6 - side));
            y.read();
            Check.due("its other size", y.get(-1, side), 6 - side);
            Check.due("the picture is all 0", y.reduce(2, 0), 1);
            Check.due("its colour", y.colourAt(0, 0), 0);
            Check.fine("its new last place", () -> y.paint(y.get(-1, 2) - 1, y.get(-1, 3) - 1, 1));
            Check.noIndex("and none behind it", () -> y.paint(y.get(-1, 2), 0, 1));
            Check.noIndex("and none below it", () -> y.shown(0, y.get(-1, 3)));
        }
    }
}
