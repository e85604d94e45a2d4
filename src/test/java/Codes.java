import java.util.ArrayList;
import java.util.List;

/** Codes one behind the other, each with as many bits as the greatest one at its place has. */
final class Codes {
    private final int c;
    private int greatest;
    private int bits;
    private final List<Integer> bytes = new ArrayList<>();

    Codes(int m) {
        c = 1 << m;
        greatest = c + 1;
    }

    /** How many bits the next one has. */
    int width() {
        return Integer.toBinaryString(greatest).length();
    }

    private void put(int code) {
        int n = width();
        for (int b = 0; b < n; b++) {
            if (bits % 8 == 0) {
                bytes.add(0);
            }
            int last = bytes.size() - 1;
            bytes.set(last, bytes.get(last) | (code >> b & 1) << bits % 8);
            bits++;
        }
    }

    /** Ones that stand for pixels. */
    Codes strings(int... codes) {
        for (int code : codes) {
            put(code);
            greatest = Math.min(63, greatest + 1);
        }
        return this;
    }

    Codes fresh() {
        put(c);
        greatest = c + 1;
        return this;
    }

    Codes end() {
        put(c + 1);
        return this;
    }

    /** As many pixels of number 0, each a code of its own. */
    Codes zeros(int n) {
        return strings(new int[n]);
    }

    int bits() {
        return bits;
    }

    List<Integer> bytes() {
        return bytes;
    }
}
