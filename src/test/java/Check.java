import java.util.ArrayList;
import java.util.List;

/** What the tests of the project share: answers against those that are due, and bytes. */
final class Check {
    interface Call {
        void run();
    }

    private static int asked;
    private static int wrong;
    private static int sentences;
    private static int askedBefore;
    private static String sentence = "";

    private Check() {
    }

    static void due(String what, long got, long want) {
        asked++;
        if (got != want) {
            tell(what + " answered " + got + ", due is " + want);
        }
    }

    static void due(String what, boolean got, boolean want) {
        due(what, got ? 1 : 0, want ? 1 : 0);
    }

    static void due(String what, String got, String want) {
        asked++;
        if (!got.equals(want)) {
            tell(what + " answered " + got + ", due is " + want);
        }
    }

    private static void tell(String text) {
        wrong++;
        if (wrong <= 50) {
            System.out.println(sentence + text);
        }
    }

    /** From here on the answers are about these words of the document. */
    static void says(String where, String words) {
        leaveSentence();
        sentences++;
        sentence = "[" + where + ": " + words + "] ";
    }

    /** A sentence that nothing was asked about would pass whatever the program did. */
    private static void leaveSentence() {
        if (!sentence.isEmpty() && asked == askedBefore) {
            tell("nothing was asked");
        }
        askedBefore = asked;
        sentence = "";
    }

    static void noIndex(String what, Call call) {
        due(what, thrown(call), "IndexOutOfBoundsException");
    }

    static void noArgument(String what, Call call) {
        due(what, thrown(call), "IllegalArgumentException");
    }

    static void noState(String what, Call call) {
        due(what, thrown(call), "IllegalStateException");
    }

    static void fine(String what, Call call) {
        due(what, thrown(call), "nothing");
    }

    /** The name of just what was thrown, so that an exception of the library's own is told apart. */
    static String thrown(Call call) {
        try {
            call.run();
            return "nothing";
        } catch (RuntimeException e) {
            return e.getClass().getSimpleName();
        }
    }

    static void end() {
        leaveSentence();
        System.out.println((sentences == 0 ? "" : sentences + " sentences, ")
            + asked + " answers, " + wrong + " of them not as due");
        if (wrong != 0) {
            System.exit(1);
        }
    }

    /** All that the face tells of an object, as a text. */
    static String state(PaletteReel reel) {
        return reelState(reel) + " shown " + canvas(reel) + " bytes " + bytes(reel);
    }

    static String reelState(PaletteReel reel) {
        StringBuilder text = new StringBuilder();
        for (int f = -1; f < reel.frames(); f++) {
            text.append(" [").append(f).append(": ");
            for (int what = 0; what <= 8; what++) {
                text.append(reel.get(f, what)).append(' ');
            }
            int own = reel.get(f, 4);
            int colours = own > 0 ? own : reel.get(-1, 4);
            for (int k = 0; k < colours; k++) {
                text.append(Integer.toHexString(reel.colourAt(f, k))).append(' ');
            }
            text.append(f < 0 ? "" : pixels(reel, f)).append("]");
        }
        return text.toString();
    }

    static String pixels(PaletteReel reel, int f) {
        StringBuilder text = new StringBuilder();
        int width = reel.get(f, 2);
        int height = reel.get(f, 3);
        for (int y = 0; y < height; y++) {
            text.append(y == 0 ? "" : "/");
            for (int x = 0; x < width; x++) {
                text.append(Integer.toHexString(reel.pixelAt(f, x, y)));
            }
        }
        return text.toString();
    }

    static String canvas(PaletteReel reel) {
        StringBuilder text = new StringBuilder();
        int width = reel.get(-1, 2);
        int height = reel.get(-1, 3);
        for (int y = 0; y < height; y++) {
            text.append(y == 0 ? "" : "/");
            for (int x = 0; x < width; x++) {
                int colour = reel.shown(x, y);
                text.append(x == 0 ? "" : " ");
                text.append(colour == PaletteReel.NONE ? "-" : Integer.toHexString(colour));
            }
        }
        return text.toString();
    }

    static String bytes(PaletteReel reel) {
        StringBuilder text = new StringBuilder();
        int k = 0;
        for (int value = reel.byteAt(0); value != PaletteReel.NONE; value = reel.byteAt(k)) {
            text.append(k == 0 ? "" : " ").append(value);
            k++;
        }
        return text.toString();
    }

    static String texts(List<Integer> bytes) {
        StringBuilder text = new StringBuilder();
        for (int k = 0; k < bytes.size(); k++) {
            text.append(k == 0 ? "" : " ").append(bytes.get(k));
        }
        return text.toString();
    }

    static List<Integer> list(int... bytes) {
        List<Integer> made = new ArrayList<>();
        for (int value : bytes) {
            made.add(value);
        }
        return made;
    }

    @SafeVarargs
    static List<Integer> join(List<Integer>... parts) {
        List<Integer> made = new ArrayList<>();
        for (List<Integer> part : parts) {
            made.addAll(part);
        }
        return made;
    }

    /** Wipes the bytes and feeds these in their place. */
    static void give(PaletteReel reel, List<Integer> bytes) {
        reel.wipe();
        for (int start = 0; start < bytes.size(); start += 8) {
            int n = Math.min(8, bytes.size() - start);
            long w = 0;
            for (int i = n - 1; i >= 0; i--) {
                w = w << 8 | bytes.get(start + i);
            }
            reel.feed(w, n);
        }
    }

    /** Codes with their numbers of bits, in turn, as the bytes that they fill. */
    static List<Integer> packed(int... codesAndBits) {
        List<Integer> bytes = new ArrayList<>();
        int bit = 0;
        for (int i = 0; i < codesAndBits.length; i += 2) {
            for (int b = 0; b < codesAndBits[i + 1]; b++) {
                if (bit % 8 == 0) {
                    bytes.add(0);
                }
                int last = bytes.size() - 1;
                bytes.set(last, bytes.get(last) | (codesAndBits[i] >> b & 1) << bit % 8);
                bit++;
            }
        }
        return bytes;
    }

    /** The bytes as one block, with its length before it. */
    static List<Integer> block(List<Integer> bytes) {
        return join(list(bytes.size()), bytes);
    }
}
