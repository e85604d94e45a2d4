import java.util.ArrayList;
import java.util.List;
import java.util.Random;

/** Makes bytes of reels with all the liberties that reading leaves, and now and then a fault. */
final class LooseReel {
    private final Random random;
    private final List<Integer> bytes = new ArrayList<>();

    LooseReel(Random random) {
        this.random = random;
    }

    private boolean chance(int percent) {
        return random.nextInt(100) < percent;
    }

    List<Integer> make(int width, int height) {
        bytes.clear();
        int bits = random.nextInt(4);
        bytes.addAll(List.of(80, 49, width, height, bits));
        addColours(2 << bits);
        int frames = random.nextInt(5) + (chance(3) ? 1 : 0);
        for (int f = 0; f < frames; f++) {
            int clear = addSettings();
            addFrame(2 << bits, clear);
        }
        addSettings();
        bytes.add(59);
        if (chance(30)) {
            spoil();
        }
        return bytes;
    }

    private void spoil() {
        int k = random.nextInt(bytes.size());
        int kind = random.nextInt(4);
        if (kind == 0) {
            bytes.remove(k);
        } else if (kind == 1) {
            bytes.add(k, random.nextInt(256));
        } else if (kind == 2) {
            bytes.set(k, random.nextInt(256));
        } else {
            bytes.set(k, bytes.get(k) ^ 1 << random.nextInt(8));
        }
    }

    private void addColours(int n) {
        for (int k = 0; k < 3 * n; k++) {
            bytes.add(random.nextInt(256));
        }
    }

    /** The clear number of the last settings, or -1: it may be none of the palette. */
    private int addSettings() {
        int clear = -1;
        while (chance(50)) {
            if (chance(25)) {
                bytes.add(254);
                while (chance(40)) {
                    int n = 1 + random.nextInt(chance(10) ? 40 : 4);
                    bytes.add(n);
                    addColours(n / 3);
                    for (int i = 0; i < n % 3; i++) {
                        bytes.add(random.nextInt(256));
                    }
                }
                bytes.add(0);
            } else {
                boolean clears = chance(50);
                int third = chance(70) ? random.nextInt(2) : random.nextInt(20);
                bytes.addAll(List.of(33, random.nextInt(4) + (clears ? 16 : 0), random.nextInt(256), third));
                clear = clears ? third : -1;
            }
        }
        return clear;
    }

    private void addFrame(int colours, int clear) {
        int wide = 1 + random.nextInt(8);
        int high = 1 + random.nextInt(8);
        bytes.addAll(List.of(44, random.nextInt(8), random.nextInt(8), wide, high));
        int woven = random.nextInt(2);
        if (chance(40) || clear >= colours) {
            int own = clear >= 8 ? 3 : clear >= 4 ? 2 : random.nextInt(4);
            bytes.add(woven + 2 + 4 * own);
            addColours(2 << own);
            colours = 2 << own;
        } else {
            bytes.add(woven);
        }
        int m = 2 + random.nextInt(3);
        bytes.add(m);
        int used = Math.min(1 << m, chance(2) ? 16 : colours);
        used = chance(50) ? used : 1 + random.nextInt(used);
        List<Integer> pixels = new ArrayList<>();
        int n = wide * high + (chance(3) ? random.nextInt(3) - 1 : 0);
        for (int i = 0; i < n; i++) {
            pixels.add(random.nextInt(used));
        }
        addBlocks(looseCodes(m, pixels));
    }

    private StringBuilder looseCodes(int m, List<Integer> pixels) {
        int c = 1 << m;
        int greed = random.nextInt(101);
        int fresher = chance(30) ? 10 : 0;
        List<List<Integer>> strings = new ArrayList<>();
        List<Integer> before = null;
        StringBuilder text = new StringBuilder();
        put(text, c, c + 1);
        int at = 0;
        while (at < pixels.size()) {
            int greatest = greatest(c, strings, before);
            if (chance(fresher)) {
                put(text, c, greatest);
                strings.clear();
                before = null;
                continue;
            }
            if (before != null && c + 2 + strings.size() <= 63) {
                List<Integer> made = new ArrayList<>(before);
                made.add(pixels.get(at));
                strings.add(made);
            }
            int code = pixels.get(at);
            before = List.of(code);
            for (int k = 0; k < strings.size(); k++) {
                List<Integer> string = strings.get(k);
                boolean goes = at + string.size() <= pixels.size()
                    && pixels.subList(at, at + string.size()).equals(string);
                if (goes && chance(greed)) {
                    code = c + 2 + k;
                    before = string;
                }
            }
            put(text, code, greatest);
            at += before.size();
        }
        while (chance(fresher)) {
            put(text, c, greatest(c, strings, before));
            strings.clear();
            before = null;
        }
        put(text, c + 1, greatest(c, strings, before));
        return text;
    }

    private static int greatest(int c, List<List<Integer>> strings, List<Integer> before) {
        return before == null ? c + 1 : Math.min(63, c + 2 + strings.size());
    }

    private static void put(StringBuilder text, int code, int greatest) {
        for (int bit = 0; 1 << bit <= greatest; bit++) {
            text.append(code >> bit & 1);
        }
    }

    private void addBlocks(StringBuilder text) {
        while (text.length() % 8 != 0) {
            text.append(random.nextInt(2));
        }
        List<Integer> data = new ArrayList<>();
        for (int start = 0; start < text.length(); start += 8) {
            int value = 0;
            for (int bit = 0; bit < 8; bit++) {
                value |= (text.charAt(start + bit) - '0') << bit;
            }
            data.add(value);
        }
        int most = 1 + random.nextInt(chance(50) ? 60 : 5);
        int start = 0;
        while (start < data.size()) {
            int n = Math.min(1 + random.nextInt(most), data.size() - start);
            int more = start + n == data.size() && chance(20) ? 1 + random.nextInt(4) : 0;
            bytes.add(n + more);
            bytes.addAll(data.subList(start, start + n));
            for (int i = 0; i < more; i++) {
                bytes.add(random.nextInt(256));
            }
            start += n;
        }
        if (chance(2)) {
            bytes.addAll(List.of(1, random.nextInt(256)));
        }
        bytes.add(0);
    }
}
