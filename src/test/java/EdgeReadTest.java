import java.util.ArrayList;
import java.util.Collections;
import java.util.List;

/** The edges that the document names of reading: Terms, and promise 17. */
public final class EdgeReadTest {
    private static final List<Integer> HEAD = Reading.HEAD;
    private static final List<Integer> DOT = Reading.DOT;

    private EdgeReadTest() {
    }

    public static void main(String[] args) {
        blocksOfAnySize();
        bitsLeftBehindTheEnd();
        bytesLeftBehindTheEnd();
        commentsAnywhere();
        commentsOfAnySize();
        severalSettings();
        lastSettingCounts();
        onlyItsClearNumber();
        noSetting();
        settingsBehindTheLastFrame();
        thirdByteAny();
        anyBits();
        freshOnesAnywhere();
        noFreshOneNeeded();
        firstCode();
        entriesThatAreRead();
        entriesOfThemselves();
        reelOfTheBytes();
        pictureOfAnotherSize();
        framesItHas();
        nothingIsChanged();
        bytesStay();
        Check.end();
    }

    // Reading

    private static void blocksOfAnySize() {
        Check.says("Terms", "blocks may have 1 .. 255 bytes");
        Codes codes = new Codes(2).fresh();
        for (int i = 0; i < 800; i++) {
            codes.fresh();
        }
        List<Integer> bytes = codes.strings(1).end().bytes();
        Check.due("more than one block of 255, and room for all as blocks of 1", bytes.size(), 302);
        int[] sizes = {1, 2, 19, 20, 21, 127, 128, 129, 254, 255};
        for (int size : sizes) {
            Reading.pixelsDue("blocks of " + size, Reading.reel(Parts.place(1, 1, 0), Parts.data(2, bytes, size)), "1");
        }
        for (int size = 2; size <= 255; size++) {
            List<Integer> block = new ArrayList<>(new Codes(2).fresh().strings(0).end().bytes());
            block.addAll(Collections.nCopies(size - block.size(), 255));
            Reading.pixelsDue("one of " + size, Reading.reel(Parts.place(1, 1, 0), Parts.data(2, block, 255)), "0");
        }
    }

    private static void bitsLeftBehindTheEnd() {
        Check.says("Terms", "any bits ... may be left behind the end in its block");
        Codes codes = new Codes(2).fresh().strings(1).end();
        Check.due("bits that are used", codes.bits(), 9);
        for (int rest = 0; rest < 128; rest++) {
            List<Integer> bytes = Parts.changed(codes.bytes(), 1, codes.bytes().get(1) | rest << 1);
            Reading.pixelsDue("rest " + rest, Reading.reel(Parts.place(1, 1, 0), Parts.data(2, bytes, 20)), "1");
        }
    }

    private static void bytesLeftBehindTheEnd() {
        Check.says("Terms", "any ... bytes may be left behind the end in its block");
        List<Integer> codes = new Codes(2).fresh().strings(1).end().bytes();
        int[] values = {0, 1, 33, 44, 59, 254, 255};
        for (int value : values) {
            for (int n = 1; n <= 253; n += n < 4 ? 1 : 83) {
                List<Integer> bytes = Check.join(codes, Collections.nCopies(n, value));
                Reading.pixelsDue(n + " times " + value, Reading.reel(Parts.place(1, 1, 0),
                    Parts.data(2, bytes, 255)), "1");
            }
        }
        Codes whole = new Codes(2).fresh().strings(1, 0, 1).end();
        Check.due("the end has the last bit of its byte", whole.bits(), 16);
        Reading.pixelsDue("bytes behind", Reading.reel(Parts.place(3, 1, 0),
            Parts.data(2, Check.join(whole.bytes(), List.of(255, 255)), 20)), "101");
    }

    private static void commentsAnywhere() {
        Check.says("Terms", "between the palette and 59 there may be COMMENTS (254, blocks or none, 0)");
        List<List<Integer>> parts = List.of(Parts.setting(1, 7, 0), Parts.setting(2, 9, 0), DOT,
            Parts.setting(3, 8, 0), DOT, Parts.setting(0, 0, 0));
        List<Integer> plain = new ArrayList<>();
        parts.forEach(plain::addAll);
        String due = Check.reelState(Reading.reads("no comment", Reading.reel(plain), 2));
        List<List<Integer>> comments = List.of(Parts.EMPTY_COMMENT, Parts.comment(59, 1), Parts.comment(0, 3),
            Parts.comment(254, 2, 1, 5), Check.join(Parts.EMPTY_COMMENT, Parts.comment(44, 2)));
        for (List<Integer> comment : comments) {
            for (int at = 0; at <= parts.size(); at++) {
                List<Integer> made = new ArrayList<>();
                for (int i = 0; i <= parts.size(); i++) {
                    made.addAll(i == at ? comment : Parts.NOTHING);
                    made.addAll(i < parts.size() ? parts.get(i) : Parts.NOTHING);
                }
                PaletteReel x = Reading.reads("a comment before part " + at, Reading.reel(made), 2);
                Check.due("the reel with a comment before part " + at, Check.reelState(x), due);
            }
            Check.due("a comment alone", Reading.reads("a comment alone", Reading.reel(comment), 0).frames(), 0);
        }
        List<Integer> good = Reading.reel(DOT);
        for (int k = 0; k < HEAD.size(); k++) {
            Reading.refuses("one before byte " + k, Check.join(good.subList(0, k), Parts.EMPTY_COMMENT,
                good.subList(k, good.size())));
        }
        Reading.refuses("one behind 59", Check.join(good, Parts.EMPTY_COMMENT));
    }

    private static void commentsOfAnySize() {
        Check.says("Terms", "COMMENTS (254, blocks or none, 0)");
        for (int size = 1; size <= 255; size++) {
            Reading.reads("a block of " + size, Reading.reel(Parts.comment(size, size)), 0);
        }
        Reading.reads("blocks of 255", Reading.reel(Parts.comment(7, 255, 255, 255)), 0);
        Reading.reads("many blocks", Reading.reel(Parts.comment(1, Collections.nCopies(390, 1).stream()
            .mapToInt(i -> i).toArray())), 0);
        Reading.refuses("no 0", Check.join(HEAD, List.of(254)));
        Reading.refuses("no 0 before 59", Check.join(HEAD, List.of(254, 59)));
        Reading.refuses("no 0 behind a block", Check.join(HEAD, List.of(254, 1, 0)));
        Reading.refuses("a block that is too short", Check.join(HEAD, List.of(254, 3, 0, 59)));
        Reading.refuses("a second 0", Reading.reel(List.of(254, 0, 0)));
        Reading.refuses("253", Reading.reel(List.of(253, 0)));
        Reading.refuses("255", Reading.reel(List.of(255, 0)));
    }

    private static List<Integer> settings(List<Integer> comment, int n) {
        List<Integer> made = new ArrayList<>();
        for (int i = 0; i < n; i++) {
            made.addAll(Parts.setting(i % 4, i, 0));
            made.addAll(comment);
        }
        return made;
    }

    private static void severalSettings() {
        Check.says("Terms", "before a 44 several 33 with their three bytes, comments between them, too");
        for (int n = 1; n <= 190; n += n < 4 ? 1 : 62) {
            PaletteReel x = Reading.reads("several", Reading.reel(settings(Parts.NOTHING, n), DOT), 1);
            Check.due("disposal of the last of " + n, x.get(0, 5), (n - 1) % 4);
            Check.due("delay of the last of " + n, x.get(0, 6), n - 1);
        }
        for (int n = 1; n <= 3; n++) {
            PaletteReel x = Reading.reads("several", Reading.reel(settings(Parts.comment(33, 4), n), DOT), 1);
            Check.due("delay of the last of " + n + " with comments", x.get(0, 6), n - 1);
        }
        for (int k = 1; k <= 3; k++) {
            List<Integer> setting = Parts.setting(1, 2, 0);
            Reading.refuses("one with " + (k - 1) + " bytes", Reading.reel(setting.subList(0, k), DOT));
            Reading.refuses("a comment in it", Reading.reel(setting.subList(0, k), Parts.comment(0, 1),
                setting.subList(k, 4), DOT));
        }
        Reading.refuses("one with four bytes", Reading.reel(Parts.setting(1, 2, 0), List.of(0), DOT));
    }

    private static void lastSettingCounts() {
        Check.says("Terms", "(the last one counts");
        PaletteReel x = Reading.reads("with before without", Reading.reel(Parts.setting(19, 255, 1),
            Parts.setting(0, 0, 0), DOT), 1);
        Check.due("no clear number", x.get(0, 7), -1);
        Check.due("disposal and delay", x.get(0, 5) + x.get(0, 6), 0);
        PaletteReel y = Reading.reads("without before with", Reading.reel(Parts.setting(0, 0, 0),
            Parts.setting(19, 255, 1), DOT), 1);
        Check.due("a clear number", y.get(0, 7), 1);
        Check.due("disposal and delay", y.get(0, 5) + y.get(0, 6), 258);
    }

    private static void onlyItsClearNumber() {
        Check.says("Terms", "only its clear number must be one of the palette)");
        int[] wild = {2, 3, 15, 16, 255};
        for (int clear : wild) {
            List<Integer> other = Parts.setting(16, 3, clear);
            PaletteReel x = Reading.reads("one before it, " + clear,
                Reading.reel(other, Parts.setting(17, 4, 1), DOT), 1);
            Check.due("its clear number", x.get(0, 7), 1);
            Reading.reads("one before it, " + clear, Reading.reel(other, other, Parts.setting(1, 4, clear), DOT), 1);
            Reading.refuses("itself, " + clear, Reading.reel(Parts.setting(17, 4, 1), other, DOT));
            Reading.refuses("itself with a comment behind, " + clear, Reading.reel(other, Parts.EMPTY_COMMENT, DOT));
        }
    }

    private static void noSetting() {
        Check.says("Terms", "or none (disposal 0, delay 0, no clear number)");
        PaletteReel x = Reading.reads("none", Reading.reel(DOT), 1);
        PaletteReel y = Reading.reads("none for the second", Reading.reel(Parts.setting(19, 255, 1), DOT, DOT), 2);
        int[] due = {0, 0, -1};
        for (int i = 0; i < 3; i++) {
            Check.due("what " + (5 + i), x.get(0, 5 + i), due[i]);
            Check.due("what " + (5 + i) + " of the second", y.get(1, 5 + i), due[i]);
        }
        PaletteReel z = Scene.full();
        Check.give(z, Reading.reel(DOT));
        z.read();
        for (int i = 0; i < 3; i++) {
            Check.due("what " + (5 + i) + " where another frame was", z.get(0, 5 + i), due[i]);
        }
    }

    private static void settingsBehindTheLastFrame() {
        Check.says("Terms", "and 33 behind the last frame");
        List<Integer> wild = Parts.setting(19, 255, 255);
        String due = Check.reelState(Reading.reads("none behind", Reading.reel(DOT), 1));
        Check.due("one behind", Check.reelState(Reading.reads("one behind", Reading.reel(DOT, wild), 1)), due);
        Check.due("several behind", Check.reelState(Reading.reads("several behind",
            Reading.reel(DOT, wild, Parts.EMPTY_COMMENT, wild, wild), 1)), due);
        Reading.reads("without a frame", Reading.reel(wild), 0);
        Reading.reads("behind four", Reading.reel(DOT, DOT, DOT, DOT, wild), 4);
        Reading.refuses("one that is cut", Reading.reel(DOT, List.of(33, 0, 0)));
        Reading.refuses("one of disposal 4", Reading.reel(DOT, Parts.setting(4, 0, 0)));
    }

    private static void thirdByteAny() {
        Check.says("Terms", "without the 16 the third byte behind 33 may be any");
        for (int third = 0; third <= 255; third++) {
            PaletteReel x = Reading.reads("third byte " + third,
                Reading.reel(Parts.setting(third % 4, 5, third), DOT), 1);
            Check.due("no clear number", x.get(0, 7), -1);
            List<Integer> with = Reading.reel(Parts.setting(16 + third % 4, 5, third), DOT);
            if (third < 2) {
                Check.due("with the 16", Reading.reads("with the 16", with, 1).get(0, 7), third);
            } else {
                Reading.refusesQuickly("with the 16, " + third, with);
            }
        }
    }

    private static void anyBits() {
        Check.says("Terms", "m may be any of 2, 3, 4");
        for (int bits = 1; bits <= 4; bits++) {
            for (int m = 2; m <= 4; m++) {
                int last = Math.min((1 << bits) - 1, (1 << m) - 1);
                List<Integer> frame = Parts.frame(2, 1, m, new Codes(m).fresh().strings(last, 0).end());
                Reading.pixelsDue("m = " + m + " for " + bits, Check.join(Parts.head(1, 1, bits), frame, Parts.LAST),
                    Integer.toHexString(last) + "0");
            }
        }
        int[] wrong = {0, 1, 5, 6, 7, 8, 255};
        for (int m : wrong) {
            List<Integer> data = Parts.data(2, new Codes(2).fresh().strings(1).end());
            Reading.refuses("m = " + m, Reading.reel(Parts.place(1, 1, 0), Parts.changed(data, 0, m)));
        }
        for (int m = 1; m <= 5; m += 4) {
            Codes codes = new Codes(m).fresh().strings(1).end();
            Reading.refuses("m = " + m + " with its codes", Reading.reel(Parts.frame(1, 1, m, codes)));
        }
    }

    private static void freshOnesAnywhere() {
        Check.says("Terms", "fresh ones may stand anywhere");
        for (int m = 2; m <= 4; m++) {
            int[] numbers = {1, 0, 0, 1, 1, 1, 0, 1};
            for (int at = 0; at <= 8; at++) {
                for (int times = 1; times <= 3; times++) {
                    Codes codes = new Codes(m).fresh();
                    for (int i = 0; i <= 8; i++) {
                        for (int k = 0; i == at && k < times; k++) {
                            codes.fresh();
                        }
                        codes.strings(i < 8 ? new int[] {numbers[i]} : new int[0]);
                    }
                    Reading.pixelsDue(times + " before pixel " + at,
                        Reading.reel(Parts.frame(8, 1, m, codes.end())), "10011101");
                }
            }
        }
        Codes all = new Codes(3).fresh();
        for (int i = 0; i < 4; i++) {
            all.fresh().strings(i % 2).fresh();
        }
        Reading.pixelsDue("before and behind each", Reading.reel(Parts.frame(4, 1, 3, all.end())), "0101");
        Codes most = new Codes(2).fresh();
        for (int i = 0; i < 2000; i++) {
            most.fresh();
        }
        Reading.pixelsDue("two thousand", Reading.reel(Parts.place(1, 1, 0),
            Parts.data(2, most.strings(1).end().bytes(), 255)), "1");
        // Behind the entry of 63, and one code later.
        Reading.pixelsDue("where all entries are there", Reading.reel(Parts.frame(8, 8, 4,
            new Codes(4).fresh().zeros(47).fresh().zeros(17).end())), Reading.zeros(8));
        Reading.pixelsDue("one code later", Reading.reel(Parts.frame(8, 8, 4,
            new Codes(4).fresh().zeros(48).fresh().zeros(16).end())), Reading.zeros(8));
        Reading.pixelsDue("one code earlier", Reading.reel(Parts.frame(8, 8, 4,
            new Codes(4).fresh().zeros(46).fresh().zeros(18).end())), Reading.zeros(8));
    }

    private static void noFreshOneNeeded() {
        Check.says("Terms", "and need not stand where all entries are there");
        for (int m = 2; m <= 4; m++) {
            Reading.pixelsDue("m = " + m + ", single pixels behind all entries", Reading.reel(Parts.frame(8, 8, m,
                new Codes(m).fresh().zeros(64).end())), Reading.zeros(8));
            entriesBehindAllEntries(m);
        }
    }

    /** 1, 0, then ones alone: the first entry is 1 0, the last one 1 1, and they stay so. */
    private static void entriesBehindAllEntries(int m) {
        int all = 63 - (1 << m);
        int left = 64 - all - 4;
        Codes codes = new Codes(m).fresh().strings(1, 0);
        for (int i = 2; i < all; i++) {
            codes.strings(1);
        }
        for (int i = 0; i < left; i++) {
            codes.strings(0);
        }
        codes.strings((1 << m) + 2, 63).end();
        String row = "10" + "1".repeat(all - 2) + "0".repeat(left) + "1011";
        Reading.pixelsDue("m = " + m + ", entries behind all entries", Reading.reel(Parts.frame(8, 8, m, codes)),
            String.join("/", row.split("(?<=\\G.{8})")));
    }

    private static void firstCode() {
        Check.says("Terms", "the first code is a fresh one");
        for (int m = 2; m <= 4; m++) {
            int c = 1 << m;
            for (int first = 0; first < 2 * c; first++) {
                int[] codes = {first, m + 1, 1, m + 1, c + 1, m + 1};
                List<Integer> bytes = Reading.reel(Parts.place(1, 1, 0),
                    Parts.data(m, Check.packed(codes), 20));
                if (first == c) {
                    Reading.pixelsDue("a fresh one", bytes, "1");
                } else {
                    Reading.refuses("first code " + first + " of m " + m, bytes);
                }
            }
            Reading.refuses("a pixel and the end", Reading.reel(Parts.frame(1, 1, m, new Codes(m).strings(1).end())));
            Reading.refuses("the end alone", Reading.reel(Parts.frame(1, 1, m, new Codes(m).end())));
        }
    }

    private static void entriesThatAreRead() {
        Check.says("Terms", "makes an entry ...: the string of the code before it, and the first pixel of its own");
        // 6 is 1 0, 7 is 0 1, 8 is 1 0 0, 9 is 0 1 1.
        Reading.pixelsDue("entries of entries", Reading.reel(Parts.frame(6, 2, 2,
            new Codes(2).fresh().strings(1, 0, 6, 7, 8, 9).end())), "101001/100011");
        // Behind a fresh one 6 is 0 1.
        Reading.pixelsDue("entries behind a fresh one", Reading.reel(Parts.frame(8, 1, 2,
            new Codes(2).fresh().strings(1, 0, 6).fresh().strings(0, 1, 6).end())), "10100101");
    }

    private static void entriesOfThemselves() {
        Check.says("Terms", "(the code may be that very entry)");
        for (int m = 2; m <= 4; m++) {
            int first = (1 << m) + 2;
            for (int number = 0; number < 1 << m; number++) {
                String digit = Integer.toHexString(number);
                Codes codes = new Codes(m).fresh().strings(number, first, first + 1).end();
                Reading.pixelsDue(number + " of m " + m, Check.join(Parts.head(1, 1, 4), Parts.frame(6, 1, m, codes),
                    Parts.LAST), digit.repeat(6));
            }
        }
        // 6 is 1 0, 7 is 0 1, 8 is 1 0 1.
        Reading.pixelsDue("one of two pixels before it", Reading.reel(Parts.frame(7, 1, 2,
            new Codes(2).fresh().strings(1, 0, 6, 8).end())), "1010101");
        int[] codes = new int[47];
        codes[45] = 1;
        codes[46] = 63;
        Reading.pixelsDue("the last entry", Reading.reel(Parts.frame(8, 6, 4,
            new Codes(4).fresh().strings(codes).end())), Reading.zeros(5) + "/00000111");
    }

    // Promise 17

    private static void reelOfTheBytes() {
        Check.says("Promise 17", "The reel becomes that of the bytes");
        List<Integer> bytes = Check.join(Parts.head(8, 1, 4), Parts.setting(19, 255, 15),
            List.of(44, 7, 6, 2, 2, 1), Parts.data(4, new Codes(4).fresh().strings(15, 14, 13, 0).end()),
            List.of(44, 0, 7, 1, 1, 2), Parts.colours(2), Parts.data(3, new Codes(3).fresh().strings(1).end()),
            Parts.LAST);
        PaletteReel x = Scene.full();
        Check.give(x, bytes);
        Check.due("frames", x.read(), 2);
        int[] reel = {0, 0, 8, 1, 16, 0, 0, 0, 0};
        int[] first = {7, 6, 2, 2, 0, 3, 255, 15, 1};
        int[] second = {0, 7, 1, 1, 2, 0, 0, -1, 0};
        for (int what = 0; what <= 8; what++) {
            Check.due("get(-1, " + what + ")", x.get(-1, what), reel[what]);
            Check.due("get(0, " + what + ")", x.get(0, what), first[what]);
            Check.due("get(1, " + what + ")", x.get(1, what), second[what]);
        }
        Check.due("the reel's last colour", x.colourAt(-1, 15), 45 * 65536 + 46 * 256 + 47);
        Check.due("a colour of its own", x.colourAt(1, 1), 3 * 65536 + 4 * 256 + 5);
        Check.due("pixels", Check.pixels(x, 0) + " " + Check.pixels(x, 1), "fe/d0 1");
        Check.noIndex("no third frame is left", () -> x.get(2, 0));
        x.palette(-1, 4);
        Check.due("an empty reel", emptyAfter(x), 0);
        x.palette(-1, 4);
        Check.due("no colour of the one before is left", x.colourAt(-1, 15), 0);
    }

    private static int emptyAfter(PaletteReel x) {
        Check.give(x, Check.join(Parts.head(1, 1, 1), Parts.LAST));
        return x.read();
    }

    private static void pictureOfAnotherSize() {
        Check.says("Promise 17", "(the picture becomes as large, all 0, if width or height is another one)");
        int[][] sizes = {{3, 2}, {2, 2}, {4, 2}, {3, 1}, {3, 3}, {2, 3}, {1, 1}, {8, 8}, {6, 1}, {1, 6}};
        for (int[] size : sizes) {
            PaletteReel x = Scene.some();
            Check.give(x, Check.join(Parts.head(size[0], size[1], 1), Parts.LAST));
            Check.due("it is read", x.read(), 0);
            boolean same = size[0] == 3 && size[1] == 2;
            Check.noIndex("none right of it", () -> x.paint(size[0], 0, 1));
            Check.noIndex("none below it", () -> x.paint(0, size[1], 1));
            String picture = Scene.picture(x);
            Check.due("the picture of " + size[0] + " * " + size[1], picture,
                same ? Scene.picture(Scene.some()) : picture.replaceAll("[^ /]+", "0"));
            Check.fine("its last place", () -> x.paint(size[0] - 1, size[1] - 1, 1));
            Check.give(x, Check.join(Parts.head(3, 2, 1), Parts.LAST));
            x.read();
            Check.due("and back again", Scene.picture(x), same ? picture.replaceAll("[0-9a-f]+$", "1") : "0 0 0/0 0 0");
        }
    }

    private static void framesItHas() {
        Check.says("Promise 17", "how many frames it has");
        List<Integer> frames = new ArrayList<>();
        for (int n = 0; n <= 4; n++) {
            PaletteReel x = Scene.full();
            Check.give(x, Reading.reel(frames));
            Check.due("read", x.read(), n);
            Check.due("frames", x.frames(), n);
            int all = n;
            Check.fine("all can be drawn", () -> x.draw(all));
            Check.noArgument("no more to draw", () -> x.draw(all + 1));
            frames.addAll(DOT);
        }
    }

    private static void nothingIsChanged() {
        Check.says("Promise 17", "IllegalArgumentException when they are not well formed: nothing is changed.");
        List<Scene.Maker> scenes = List.of(Scene::bare, Scene::some, Scene::full);
        List<Integer> other = Check.join(Parts.head(8, 8, 4), Parts.setting(19, 255, 15),
            Parts.frame(8, 8, 4, new Codes(4).fresh().zeros(64).end()), DOT);
        List<List<Integer>> wrong = List.of(Parts.NOTHING, other, Check.join(other, List.of(59, 59)),
            Check.join(other, List.of(58)), Check.join(other, DOT, DOT, DOT, Parts.LAST), other.subList(0, 60));
        for (Scene.Maker scene : scenes) {
            for (List<Integer> bytes : wrong) {
                Scene.refuses(bytes.size() + " bytes", Scene.holding(scene, bytes), Scene.ARGUMENT, x -> x.read());
            }
            PaletteReel x = scene.make();
            Check.give(x, Check.join(other, Parts.LAST));
            Check.due("well formed they are read", x.read(), 2);
            x.spoil(0, 0);
            String before = Check.reelState(x);
            Check.noArgument("spoilt they are not", () -> x.read());
            Check.due("what was read stays", Check.reelState(x), before);
        }
        Scene.refuses("no bytes", Scene::bare, Scene.ARGUMENT, x -> x.read());
    }

    private static void bytesStay() {
        Check.says("Promise 17", "(The bytes stay, read or not.)");
        List<Integer> good = Reading.reel(Parts.comment(9, 3), DOT);
        PaletteReel x = Reading.reads("a reel", good, 1);
        Check.due("read", Check.bytes(x), Check.texts(good));
        Check.due("read again", x.read(), 1);
        x.feed(1, 1);
        Check.noArgument("not read", () -> x.read());
        Check.due("not read", Check.bytes(x), Check.texts(Check.join(good, List.of(1))));
        Scene.refuses("800 bytes", Scene::full, Scene.ARGUMENT, y -> y.read());
    }
}
