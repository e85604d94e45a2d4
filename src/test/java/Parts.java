import java.util.ArrayList;
import java.util.Collections;
import java.util.List;

/** The parts that the bytes of a reel are put together from, right or wrong. */
final class Parts {
    static final List<Integer> NOTHING = List.of();
    static final List<Integer> LAST = List.of(59);
    static final List<Integer> EMPTY_COMMENT = List.of(254, 0);

    private Parts() {
    }

    static List<Integer> head(int width, int height, int bits) {
        return Check.join(List.of(80, 49, width, height, bits - 1), colours(1 << bits));
    }

    /** Colour k is 3 * k, 3 * k + 1, 3 * k + 2. */
    static List<Integer> colours(int n) {
        List<Integer> made = new ArrayList<>();
        for (int k = 0; k < 3 * n; k++) {
            made.add(k);
        }
        return made;
    }

    static List<Integer> setting(int disposal, int delay, int third) {
        return List.of(33, disposal, delay, third);
    }

    static List<Integer> place(int width, int height, int flags) {
        return List.of(44, 0, 0, width, height, flags);
    }

    /** m and the codes in one block. */
    static List<Integer> data(int m, Codes codes) {
        return Check.join(List.of(m), Check.block(codes.bytes()), List.of(0));
    }

    /** m and the codes in blocks of so many bytes, the last of them with the rest. */
    static List<Integer> data(int m, List<Integer> bytes, int size) {
        List<Integer> made = Check.list(m);
        for (int start = 0; start < bytes.size(); start += size) {
            made.addAll(Check.block(bytes.subList(start, Math.min(bytes.size(), start + size))));
        }
        made.add(0);
        return made;
    }

    /** A frame without a palette of its own, its codes in one block. */
    static List<Integer> frame(int width, int height, int m, Codes codes) {
        return Check.join(place(width, height, 0), data(m, codes));
    }

    /** A frame of one pixel, number 1. */
    static List<Integer> dot() {
        return frame(1, 1, 2, new Codes(2).fresh().strings(1).end());
    }

    /** A comment of blocks that have so many bytes, all of them this one. */
    static List<Integer> comment(int value, int... sizes) {
        List<Integer> made = Check.list(254);
        for (int size : sizes) {
            made.add(size);
            made.addAll(Collections.nCopies(size, value));
        }
        made.add(0);
        return made;
    }

    static List<Integer> changed(List<Integer> bytes, int k, int value) {
        List<Integer> made = new ArrayList<>(bytes);
        made.set(k, value);
        return made;
    }
}
