import java.util.ArrayList;
import java.util.Collections;
import java.util.List;

/** The edges that the document names of bytes that are not well formed, each with the last that is. */
public final class EdgeWellFormedTest {
    private static final List<Integer> HEAD = Reading.HEAD;
    private static final List<Integer> DOT = Reading.DOT;

    private EdgeWellFormedTest() {
    }

    public static void main(String[] args) {
        sizesInTheBytes();
        bytesAsTheyShouldBe();
        cutBytes();
        pixelOfNoColour();
        clearNumberOfNoColour();
        moreThanFourFrames();
        moreBytesBehind();
        codesOfNoEntry();
        blocksEndBeforeTheEnd();
        blockBehindTheEnd();
        numberOfPixels();
        Check.end();
    }

    private static void sizesInTheBytes() {
        Check.says("Terms", "a width and a height of its own (1 .. 8");
        for (int width = 0; width <= 9; width++) {
            for (int height = 0; height <= 9; height++) {
                Codes codes = new Codes(4).fresh().zeros(width * height).end();
                List<Integer> bytes = Reading.reel(Parts.frame(width, height, 4, codes));
                if (width >= 1 && width <= 8 && height >= 1 && height <= 8) {
                    PaletteReel x = Reading.reads("a frame", bytes, 1);
                    Check.due("its size", x.get(0, 2) * 10 + x.get(0, 3), width * 10 + height);
                } else {
                    Reading.refuses("a frame of " + width + " * " + height, bytes);
                }
            }
        }
    }

    private static void bytesAsTheyShouldBe() {
        Check.says("Terms", "Bytes are NOT WELL FORMED when one is not as it should be");
        List<Integer> good = Reading.reel(Parts.setting(2, 7, 0), DOT);
        int at = HEAD.size();
        ranges(good, 0, 80, 80);
        ranges(good, 1, 49, 49);
        ranges(good, 2, 1, 8);
        ranges(good, 3, 1, 8);
        ranges(good, 4, 0, 0);
        ranges(good, 5, 0, 255);
        ranges(good, at - 1, 0, 255);
        ranges(good, at, 33, 33);
        ranges(good, at + 2, 0, 255);
        ranges(good, at + 3, 0, 255);
        ranges(good, at + 4, 44, 44);
        ranges(good, at + 5, 0, 7);
        ranges(good, at + 6, 0, 7);
        ranges(good, at + 7, 1, 1);
        ranges(good, at + 8, 1, 1);
        ranges(good, at + 9, 0, 1);
        ranges(good, at + 10, 2, 2);
        ranges(good, at + 11, 2, 2);
        ranges(good, at + 14, 0, 0);
        ranges(good, at + 15, 59, 59);
        disposals(good, at + 1);
        flags();
    }

    /** Of all values of a byte only those from low to high are as they should be. */
    private static void ranges(List<Integer> good, int k, int low, int high) {
        for (int value = 0; value <= 255; value++) {
            List<Integer> bytes = Parts.changed(good, k, value);
            if (value >= low && value <= high) {
                Reading.reads("byte " + k + " is " + value, bytes, 1);
            } else {
                Reading.refusesQuickly("byte " + k + " is " + value, bytes);
            }
        }
    }

    private static void disposals(List<Integer> good, int k) {
        for (int value = 0; value <= 255; value++) {
            List<Integer> bytes = Parts.changed(good, k, value);
            if (value <= 3 || value >= 16 && value <= 19) {
                PaletteReel x = Reading.reads("disposal " + value, bytes, 1);
                Check.due("disposal of " + value, x.get(0, 5), value % 16);
                Check.due("clear number of " + value, x.get(0, 7), value < 16 ? -1 : 0);
            } else {
                Reading.refusesQuickly("disposal " + value, bytes);
            }
        }
    }

    /** Each with as many colours behind it as it would have, so that nothing else is wrong. */
    private static void flags() {
        List<Integer> data = Parts.data(2, new Codes(2).fresh().strings(1).end());
        for (int value = 0; value <= 255; value++) {
            int own = (value & 2) == 0 ? 0 : 2 << (value >> 2 & 3);
            List<Integer> bytes = Reading.reel(Parts.place(1, 1, value), Parts.colours(own), data);
            if (value <= 15 && (own > 0 || value <= 1)) {
                PaletteReel x = Reading.reads("flags " + value, bytes, 1);
                Check.due("colours of " + value, x.get(0, 4), own);
                Check.due("woven by " + value, x.get(0, 8), value & 1);
            } else {
                Reading.refusesQuickly("flags " + value, bytes);
            }
        }
    }

    private static void cutBytes() {
        Check.says("Terms", "READING takes any bytes that are a reel so, but for the following");
        PaletteReel x = Scene.full();
        int length = x.write();
        List<Integer> good = new ArrayList<>();
        for (int k = 0; k < length; k++) {
            good.add(x.byteAt(k));
        }
        Reading.reads("all of them", good, 4);
        for (int n = 0; n < length; n++) {
            Reading.refusesQuickly("the first " + n, good.subList(0, n));
        }
        for (int n = 1; n <= length; n++) {
            Reading.refusesQuickly("without the first " + n, good.subList(n, length));
        }
        Reading.reads("the shortest", Check.join(Parts.head(1, 1, 1), Parts.LAST), 0);
        Reading.refuses("none", Parts.NOTHING);
        List<Integer> most = Reading.reel(Parts.comment(1, 255, 255, 255, 17));
        Check.due("as many as there may be", most.size(), 800);
        Reading.reads("800 bytes", most, 0);
        Reading.reads("799 bytes", Reading.reel(Parts.comment(1, 255, 255, 255, 16)), 0);
    }

    private static void pixelOfNoColour() {
        Check.says("Terms", "when a pixel ... is none of the frame's palette");
        for (int bits = 1; bits <= 4; bits++) {
            for (int m = 2; m <= 4; m++) {
                for (int number = 0; number < 1 << m; number++) {
                    String digit = Integer.toHexString(number);
                    numbersDue(bits, m, number < 1 << bits, "0" + digit, 0, number);
                    numbersDue(bits, m, number < 1 << bits, digit + "0", number, 0);
                }
            }
        }
    }

    private static void numbersDue(int bits, int m, boolean may, String pixels, int... numbers) {
        Codes codes = new Codes(m).fresh().strings(numbers).end();
        List<Integer> shared = Check.join(Parts.head(1, 1, bits), Parts.frame(2, 1, m, codes), Parts.LAST);
        List<Integer> own = Check.join(Parts.head(1, 1, 5 - bits), Parts.place(2, 1, 4 * bits - 2),
            Parts.colours(1 << bits), Parts.data(m, codes), Parts.LAST);
        if (may) {
            Reading.pixelsDue("of the reel's " + bits, shared, pixels);
            Reading.pixelsDue("of its own " + bits, own, pixels);
        } else {
            Reading.refuses(pixels + " of the reel's " + bits, shared);
            Reading.refuses(pixels + " of its own " + bits, own);
        }
    }

    private static void clearNumberOfNoColour() {
        Check.says("Terms", "when a ... clear number is none of the frame's palette");
        for (int bits = 1; bits <= 4; bits++) {
            int n = 1 << bits;
            int[] clears = {0, n - 1, n, 255};
            for (int clear : clears) {
                List<Integer> setting = Parts.setting(16, 0, clear);
                List<Integer> shared = Check.join(Parts.head(1, 1, bits), setting, DOT, Parts.LAST);
                List<Integer> own = Check.join(Parts.head(1, 1, 5 - bits), setting, Parts.place(1, 1, 4 * bits - 2),
                    Parts.colours(n), DOT.subList(6, DOT.size()), Parts.LAST);
                if (clear < n) {
                    Check.due("of the reel's", Reading.reads("of the reel's", shared, 1).get(0, 7), clear);
                    Check.due("of its own", Reading.reads("of its own", own, 1).get(0, 7), clear);
                } else {
                    Reading.refuses(clear + " of the reel's " + n, shared);
                    Reading.refuses(clear + " of its own " + n, own);
                }
            }
        }
    }

    private static void moreThanFourFrames() {
        Check.says("Terms", "when there are more than 4 frames");
        List<Integer> frames = new ArrayList<>();
        for (int n = 0; n <= 4; n++) {
            Reading.reads(n + " frames", Reading.reel(frames), n);
            frames.addAll(DOT);
        }
        Reading.refuses("five", Reading.reel(frames));
        Reading.refuses("six", Reading.reel(frames, DOT));
        Reading.refuses("five with settings and comments", Reading.reel(DOT, DOT, DOT, DOT, Parts.setting(0, 0, 0),
            Parts.EMPTY_COMMENT, DOT));
        Reading.refuses("the mark of a fifth", Reading.reel(DOT, DOT, DOT, DOT, List.of(44)));
    }

    private static void moreBytesBehind() {
        Check.says("Terms", "or more bytes behind 59");
        int[] values = {0, 33, 44, 59, 80, 254, 255};
        for (int value : values) {
            Reading.refuses("a " + value + " behind", Check.join(Reading.reel(DOT), List.of(value)));
            Reading.refuses("a " + value + " behind no frame", Check.join(Reading.reel(Parts.NOTHING), List.of(value)));
            Reading.refuses("many behind", Check.join(Reading.reel(DOT), Collections.nCopies(99, value)));
        }
        Reading.refuses("itself again", Check.join(Reading.reel(DOT), Reading.reel(DOT)));
        Reading.reads("none behind", Reading.reel(DOT), 1);
    }

    /** All codes behind so many of one pixel each: those below C, two marks, and entries of two pixels. */
    private static void codesOfNoEntry() {
        Check.says("Terms", "when a code is neither below C + 2 nor an entry nor the one that it makes");
        List<Integer> head = Parts.head(1, 1, 4);
        for (int m = 2; m <= 4; m++) {
            int c = 1 << m;
            for (int before = 0; before <= 62; before++) {
                int made = before == 0 ? c + 1 : Math.min(63, c + 1 + before);
                int width = new Codes(m).fresh().zeros(before).width();
                for (int code = c + 2; code < 1 << width; code++) {
                    Codes codes = new Codes(m).fresh().zeros(before).strings(code).zeros(62 - before).end();
                    List<Integer> bytes = Check.join(head, Parts.frame(8, 8, m, codes), Parts.LAST);
                    if (code <= made) {
                        Reading.pixelsDue("code " + code + " behind " + before + " of m " + m, bytes, Reading.zeros(8));
                    } else {
                        Reading.refusesQuickly("code " + code + " behind " + before + " of m " + m, bytes);
                    }
                }
            }
        }
        Reading.refuses("one from before a fresh one", Check.join(head, Parts.frame(4, 1, 2,
            new Codes(2).fresh().zeros(2).fresh().strings(6).end()), Parts.LAST));
        Reading.refuses("the one that comes next behind a fresh one", Check.join(head, Parts.frame(3, 1, 2,
            new Codes(2).fresh().zeros(1).fresh().strings(6).end()), Parts.LAST));
    }

    private static void blocksEndBeforeTheEnd() {
        Check.says("Terms", "when the blocks end before the end");
        for (int m = 2; m <= 4; m++) {
            for (int n = 1; n <= 8; n++) {
                List<Integer> bytes = new Codes(m).fresh().zeros(n).end().bytes();
                for (int size = 0; size < bytes.size(); size++) {
                    Reading.refuses(size + " of " + bytes.size() + " bytes", Reading.reel(Parts.place(n, 1, 0),
                        Parts.data(m, bytes.subList(0, size), 20)));
                }
                Reading.reads("all of them", Reading.reel(Parts.place(n, 1, 0), Parts.data(m, bytes, 20)), 1);
                Reading.refuses("no end", Reading.reel(Parts.frame(n, 1, m, new Codes(m).fresh().zeros(n))));
                Reading.refuses("a fresh one in its place", Reading.reel(Parts.frame(n, 1, m,
                    new Codes(m).fresh().zeros(n).fresh())));
            }
        }
        Check.due("only one bit of the end is in the last byte", new Codes(2).fresh().zeros(1).end().bits(), 9);
        // Neither a comment nor another frame before it may lend what is missing.
        List<Integer> whole = new Codes(2).fresh().zeros(3).end().bytes();
        List<Integer> less = Check.join(Parts.place(3, 1, 0), Parts.data(2, whole.subList(0, 1), 20));
        Reading.refuses("a comment has what is missing",
            Reading.reel(List.of(254), Check.block(whole), List.of(0), less));
        Reading.refuses("a frame has what is missing",
            Reading.reel(Parts.place(3, 1, 0), Parts.data(2, whole, 20), less));
        Reading.refuses("all pixels, and blocks behind a 0", Reading.reel(Parts.place(1, 1, 0),
            List.of(2, 1, 68, 0, 1, 1, 0)));
    }

    private static void blockBehindTheEnd() {
        Check.says("Terms", "or one stands behind that in which the end has its last bit");
        for (int n = 1; n <= 8; n++) {
            Codes codes = new Codes(2).fresh().zeros(n).end();
            List<Integer> bytes = codes.bytes();
            List<Integer> place = Parts.place(n, 1, 0);
            for (int first = 1; first < bytes.size(); first++) {
                List<Integer> two = Check.join(place, List.of(2), Check.block(bytes.subList(0, first)),
                    Check.block(bytes.subList(first, bytes.size())));
                Reading.reads("its last bit is in the last block", Reading.reel(two, List.of(0)), 1);
                Reading.refuses("a block behind both", Reading.reel(two, List.of(1, 0, 0)));
            }
            List<Integer> one = Check.join(place, List.of(2), Check.block(bytes));
            Reading.reads("one block", Reading.reel(one, List.of(0)), 1);
            Reading.refuses("a block of 1 behind", Reading.reel(one, List.of(1, 0, 0)));
            Reading.refuses("a block of 255 behind", Reading.reel(one, List.of(255), Collections.nCopies(255, 0),
                List.of(0)));
            Reading.refuses("the same again behind", Reading.reel(one, Check.block(bytes), List.of(0)));
        }
        // 3 + 3 + 3 + 3 + 4 bits are two bytes.
        Codes whole = new Codes(2).fresh().zeros(3).end();
        Check.due("the end has the last bit of its block", whole.bits(), 16);
        Check.due("or only the first one of it", new Codes(2).fresh().zeros(1).end().bits(), 9);
    }

    private static void numberOfPixels() {
        Check.says("Terms", "or when a frame has not just as many pixels as it should");
        for (int width = 1; width <= 8; width++) {
            for (int height = 1; height <= 8; height++) {
                for (int more = -1; more <= 2; more++) {
                    Codes codes = new Codes(4).fresh().zeros(Math.max(0, width * height + more)).end();
                    List<Integer> bytes = Reading.reel(Parts.frame(width, height, 4, codes));
                    if (more == 0) {
                        Reading.reads("just as many", bytes, 1);
                    } else {
                        Reading.refusesQuickly(width + " * " + height + " and " + more, bytes);
                    }
                }
            }
        }
        Reading.refuses("none", Reading.reel(Parts.frame(1, 1, 2, new Codes(2).fresh().end())));
        Reading.refuses("none of 64", Reading.reel(Parts.frame(8, 8, 2, new Codes(2).fresh().end())));
        Reading.refuses("a string that begins in it and goes beyond",
            Reading.reel(Parts.frame(2, 1, 2, new Codes(2).fresh().strings(0, 6).end())));
        Reading.pixelsDue("a string that just goes in", Reading.reel(Parts.frame(3, 1, 2,
            new Codes(2).fresh().strings(0, 6).end())), "000");
        Reading.refuses("ever longer ones", Reading.reel(Parts.frame(8, 8, 2,
            new Codes(2).fresh().strings(0, 6, 7, 8, 9, 10, 11, 12, 13, 14, 15, 16).end())));
        Reading.refuses("many times too many", Reading.reel(Parts.frame(8, 8, 2,
            new Codes(2).fresh().zeros(300).end())));
    }
}
