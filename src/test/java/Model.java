import java.util.ArrayList;
import java.util.Arrays;
import java.util.Comparator;
import java.util.LinkedHashMap;
import java.util.List;
import java.util.Map;
import java.util.TreeMap;

/** The document's words done as plainly as they go, with lists and texts, to compare against. */
final class Model {
    static final class Pic {
        int left;
        int top;
        int disposal;
        int delay;
        int clear = -1;
        boolean woven;
        List<Integer> own;
        int[][] pixels;
    }

    int width;
    int height;
    List<Integer> palette = new ArrayList<>(List.of(0, 0));
    List<Pic> pics = new ArrayList<>();
    List<Integer> bytes = new ArrayList<>();
    int[][] picture;
    int[][] canvas;

    Model(int width, int height) {
        this.width = width < 1 ? 1 : width > 8 ? 8 : width;
        this.height = height < 1 ? 1 : height > 8 ? 8 : height;
        picture = new int[this.height][this.width];
        canvas = nothing();
    }

    private int[][] nothing() {
        int[][] made = new int[height][width];
        for (int[] row : made) {
            Arrays.fill(row, -1);
        }
        return made;
    }

    private static RuntimeException index() {
        return new IndexOutOfBoundsException();
    }

    private static RuntimeException argument() {
        return new IllegalArgumentException();
    }

    private Pic pic(int f) {
        if (f < 0 || f >= pics.size()) {
            throw index();
        }
        return pics.get(f);
    }

    private List<Integer> paletteOf(Pic pic) {
        return pic.own == null ? palette : pic.own;
    }

    private static boolean fits(Pic pic, int colours) {
        boolean fits = pic.clear < colours;
        for (int[] row : pic.pixels) {
            for (int number : row) {
                fits &= number < colours;
            }
        }
        return fits;
    }

    int palette(int f, int bits) {
        Pic pic = f == -1 ? null : pic(f);
        if (bits < 0 || bits > 4 || bits == 0 && f == -1) {
            throw argument();
        }
        List<Integer> old = pic == null ? palette : pic.own;
        List<Integer> made = bits == 0 ? null : new ArrayList<>();
        for (int k = 0; bits > 0 && k < 1 << bits; k++) {
            made.add(old != null && k < old.size() ? old.get(k) : 0);
        }
        for (Pic each : pics) {
            List<Integer> then = each == pic ? made : each.own;
            List<Integer> reels = pic == null ? made : palette;
            if (!fits(each, (then == null ? reels : then).size())) {
                throw argument();
            }
        }
        if (pic == null) {
            palette = made;
        } else {
            pic.own = made;
        }
        return made == null ? 0 : made.size();
    }

    void colour(int f, int k, int rgb) {
        List<Integer> own = f == -1 ? palette : pic(f).own;
        if (own == null || k < 0 || k >= own.size()) {
            throw index();
        }
        own.set(k, rgb & 0xFFFFFF);
    }

    int frame(int left, int top, int wide, int high) {
        if (left < 0 || left > 7 || top < 0 || top > 7 || wide < 1 || wide > 8 || high < 1 || high > 8) {
            throw argument();
        }
        if (pics.size() == 4) {
            throw new IllegalStateException();
        }
        Pic pic = new Pic();
        pic.left = left;
        pic.top = top;
        pic.pixels = new int[high][wide];
        pics.add(pic);
        return pics.size() - 1;
    }

    private static boolean isIn(int[][] rows, int x, int y) {
        return y >= 0 && y < rows.length && x >= 0 && x < rows[y].length;
    }

    void pixel(int f, int x, int y, int number) {
        Pic pic = pic(f);
        if (!isIn(pic.pixels, x, y)) {
            throw index();
        }
        if (number < 0 || number >= paletteOf(pic).size()) {
            throw argument();
        }
        pic.pixels[y][x] = number;
    }

    void set(int f, int disposal, int delay, int clear, boolean woven) {
        Pic pic = pic(f);
        if (disposal < 0 || disposal > 3 || delay < 0 || delay > 255
                || clear < -1 || clear >= paletteOf(pic).size()) {
            throw argument();
        }
        pic.disposal = disposal;
        pic.delay = delay;
        pic.clear = clear;
        pic.woven = woven;
    }

    int cut() {
        int were = pics.size();
        pics.clear();
        return were;
    }

    int get(int f, int what) {
        int[] all;
        if (f == -1) {
            all = new int[] {0, 0, width, height, palette.size(), 0, 0, 0, 0};
        } else {
            Pic p = pic(f);
            all = new int[] {p.left, p.top, p.pixels[0].length, p.pixels.length,
                p.own == null ? 0 : p.own.size(), p.disposal, p.delay, p.clear, p.woven ? 1 : 0};
        }
        if (what < 0 || what > 8) {
            throw index();
        }
        return all[what];
    }

    int colourAt(int f, int k) {
        List<Integer> its = f == -1 ? palette : paletteOf(pic(f));
        if (k < 0 || k >= its.size()) {
            throw index();
        }
        return its.get(k);
    }

    int pixelAt(int f, int x, int y) {
        if (!isIn(pic(f).pixels, x, y)) {
            throw index();
        }
        return pics.get(f).pixels[y][x];
    }

    // The bytes, written

    int write() {
        bytes = new ArrayList<>(List.of(80, 49, width, height, log(palette.size()) - 1));
        writePalette(palette);
        for (Pic pic : pics) {
            boolean clears = pic.clear >= 0;
            bytes.addAll(List.of(33, pic.disposal + (clears ? 16 : 0), pic.delay, clears ? pic.clear : 0));
            int flags = (pic.woven ? 1 : 0) + (pic.own == null ? 0 : 2 + 4 * (log(pic.own.size()) - 1));
            bytes.addAll(List.of(44, pic.left, pic.top, pic.pixels[0].length, pic.pixels.length, flags));
            if (pic.own != null) {
                writePalette(pic.own);
            }
            int m = Math.max(2, log(paletteOf(pic).size()));
            bytes.add(m);
            writeBlocks(codes(m, inOrder(pic)));
        }
        bytes.add(59);
        return bytes.size();
    }

    private static int log(int size) {
        return Integer.toBinaryString(size).length() - 1;
    }

    private void writePalette(List<Integer> colours) {
        for (int rgb : colours) {
            bytes.addAll(List.of(rgb / 65536, rgb / 256 % 256, rgb % 256));
        }
    }

    private static List<Integer> rowOrder(int high, boolean woven) {
        List<Integer> rows = new ArrayList<>();
        int[][] passes = {{0, 8}, {4}, {2, 6}, {1, 3, 5, 7}};
        int[][] plain = {{0, 1, 2, 3, 4, 5, 6, 7}};
        for (int[] pass : woven ? passes : plain) {
            for (int row : pass) {
                if (row < high) {
                    rows.add(row);
                }
            }
        }
        return rows;
    }

    private static List<Integer> inOrder(Pic pic) {
        List<Integer> numbers = new ArrayList<>();
        for (int y : rowOrder(pic.pixels.length, pic.woven)) {
            for (int number : pic.pixels[y]) {
                numbers.add(number);
            }
        }
        return numbers;
    }

    private static String bits(int code, int greatest) {
        int n = Integer.toBinaryString(greatest).length();
        StringBuilder text = new StringBuilder(Integer.toBinaryString(code));
        while (text.length() < n) {
            text.insert(0, '0');
        }
        return text.reverse().toString();
    }

    private static Map<Integer, List<Integer>> singles(int c) {
        Map<Integer, List<Integer>> made = new LinkedHashMap<>();
        for (int code = 0; code < c; code++) {
            made.put(code, List.of(code));
        }
        return made;
    }

    private static List<Integer> with(List<Integer> string, int pixel) {
        List<Integer> made = new ArrayList<>(string);
        made.add(pixel);
        return made;
    }

    /** The number of the entry that comes next, 64 when all are there. */
    private static int coming(Map<Integer, List<Integer>> strings) {
        return strings.size() + 2;
    }

    private static int greatest(Map<Integer, List<Integer>> strings, int c, List<Integer> before) {
        return before == null ? c + 1 : Math.min(63, coming(strings));
    }

    static String codes(int m, List<Integer> pixels) {
        int c = 1 << m;
        Map<Integer, List<Integer>> strings = singles(c);
        List<Integer> before = null;
        StringBuilder text = new StringBuilder(bits(c, c + 1));
        int at = 0;
        while (at < pixels.size()) {
            int greatest = greatest(strings, c, before);
            int entry = coming(strings);
            boolean makes = before != null && entry <= 63;
            if (makes) {
                strings.put(entry, with(before, pixels.get(at)));
            }
            int best = -1;
            for (int code : strings.keySet()) {
                List<Integer> string = strings.get(code);
                boolean goes = at + string.size() <= pixels.size()
                    && pixels.subList(at, at + string.size()).equals(string);
                if (goes && (best < 0 || string.size() > strings.get(best).size())) {
                    best = code;
                }
            }
            text.append(bits(best, greatest));
            before = strings.get(best);
            at += before.size();
            if (makes && entry == 63 && at < pixels.size()) {
                text.append(bits(c, 63));
                strings = singles(c);
                before = null;
            }
        }
        return text.append(bits(c + 1, greatest(strings, c, before))).toString();
    }

    private void writeBlocks(String text) {
        List<Integer> data = new ArrayList<>();
        for (int start = 0; start < text.length(); start += 8) {
            String eight = text.substring(start, Math.min(text.length(), start + 8));
            data.add(Integer.parseInt(new StringBuilder(eight).reverse().toString(), 2));
        }
        for (int start = 0; start < data.size(); start += 20) {
            List<Integer> block = data.subList(start, Math.min(data.size(), start + 20));
            bytes.add(block.size());
            bytes.addAll(block);
        }
        bytes.add(0);
    }

    // The bytes, changed and read

    int feed(long w, int n) {
        if (n < 1 || n > 8 || bytes.size() + n > 800) {
            return -1;
        }
        for (int i = 0; i < n; i++) {
            bytes.add((int) Long.remainderUnsigned(w, 256));
            w = Long.divideUnsigned(w, 256);
        }
        return bytes.size();
    }

    int wipe() {
        int were = bytes.size();
        bytes.clear();
        return were;
    }

    boolean spoil(int k, int value) {
        if (k < 0 || k >= bytes.size()) {
            return false;
        }
        bytes.set(k, Math.floorMod(value, 256));
        return true;
    }

    int byteAt(int k) {
        return k < 0 || k >= bytes.size() ? -1 : bytes.get(k);
    }

    private int at;

    private int next() {
        if (at >= bytes.size()) {
            throw argument();
        }
        return bytes.get(at++);
    }

    private static void must(boolean holds) {
        if (!holds) {
            throw argument();
        }
    }

    private int next(int low, int high) {
        int value = next();
        must(value >= low && value <= high);
        return value;
    }

    private List<Integer> nextPalette(int colours) {
        List<Integer> made = new ArrayList<>();
        for (int k = 0; k < colours; k++) {
            made.add(next() * 65536 + next() * 256 + next());
        }
        return made;
    }

    private List<List<Integer>> nextBlocks() {
        List<List<Integer>> blocks = new ArrayList<>();
        for (int n = next(); n > 0; n = next()) {
            List<Integer> block = new ArrayList<>();
            for (int i = 0; i < n; i++) {
                block.add(next());
            }
            blocks.add(block);
        }
        return blocks;
    }

    int read() {
        at = 0;
        next(80, 80);
        next(49, 49);
        int wide = next(1, 8);
        int high = next(1, 8);
        List<Integer> colours = nextPalette(2 << next(0, 3));
        List<Pic> made = new ArrayList<>();
        int[] settings = {0, 0, 0};
        for (int mark = next(); mark != 59; mark = next()) {
            if (mark == 33) {
                settings = new int[] {next(), next(), next()};
                must(settings[0] < 4 || settings[0] >= 16 && settings[0] < 20);
            } else if (mark == 254) {
                nextBlocks();
            } else {
                must(mark == 44 && made.size() < 4);
                made.add(nextPic(settings, colours));
                settings = new int[] {0, 0, 0};
            }
        }
        must(at == bytes.size());
        if (wide != width || high != height) {
            picture = new int[high][wide];
        }
        width = wide;
        height = high;
        palette = colours;
        pics = made;
        canvas = nothing();
        return pics.size();
    }

    private Pic nextPic(int[] settings, List<Integer> colours) {
        Pic pic = new Pic();
        pic.left = next(0, 7);
        pic.top = next(0, 7);
        int wide = next(1, 8);
        int high = next(1, 8);
        pic.pixels = new int[high][wide];
        int flags = next();
        must(List.of(0, 1, 2, 3, 6, 7, 10, 11, 14, 15).contains(flags));
        pic.woven = flags % 2 == 1;
        if (flags > 1) {
            pic.own = nextPalette(2 << flags / 4);
        }
        pic.disposal = settings[0] % 16;
        pic.delay = settings[1];
        pic.clear = settings[0] >= 16 ? settings[2] : -1;
        int m = next(2, 4);
        List<Integer> pixels = pixelsOf(m, nextBlocks());
        must(pixels.size() == wide * high);
        int i = 0;
        for (int y : rowOrder(high, pic.woven)) {
            for (int x = 0; x < wide; x++) {
                pic.pixels[y][x] = pixels.get(i++);
            }
        }
        must(fits(pic, (pic.own == null ? colours : pic.own).size()));
        return pic;
    }

    private static List<Integer> pixelsOf(int m, List<List<Integer>> blocks) {
        StringBuilder text = new StringBuilder();
        int beforeLast = 0;
        for (List<Integer> block : blocks) {
            beforeLast = text.length();
            for (int value : block) {
                text.append(bits(value, 255));
            }
        }
        int c = 1 << m;
        List<Integer> pixels = new ArrayList<>();
        Map<Integer, List<Integer>> strings = null;
        List<Integer> before = null;
        int from = 0;
        while (true) {
            int greatest = strings == null ? c + 1 : greatest(strings, c, before);
            int to = from + Integer.toBinaryString(greatest).length();
            must(to <= text.length());
            int code = Integer.parseInt(new StringBuilder(text.substring(from, to)).reverse().toString(), 2);
            from = to;
            must(strings != null || code == c);
            if (code == c + 1) {
                must(from > beforeLast);
                return pixels;
            }
            if (code == c) {
                strings = singles(c);
                before = null;
                continue;
            }
            int entry = coming(strings);
            boolean makes = before != null && entry <= 63;
            must(strings.containsKey(code) || makes && code == entry);
            if (makes) {
                List<Integer> head = strings.containsKey(code) ? strings.get(code) : before;
                strings.put(entry, with(before, head.get(0)));
            }
            before = strings.get(code);
            pixels.addAll(before);
            must(pixels.size() <= 64);
        }
    }

    // The canvas

    int draw(int n) {
        if (n < 0 || n > pics.size()) {
            throw argument();
        }
        canvas = nothing();
        int[][] old = canvas;
        for (int f = 0; f < n; f++) {
            if (f > 0) {
                dispose(pics.get(f - 1), old);
            }
            old = copy(canvas);
            Pic pic = pics.get(f);
            for (int y = 0; y < pic.pixels.length; y++) {
                for (int x = 0; x < pic.pixels[y].length; x++) {
                    int number = pic.pixels[y][x];
                    if (number != pic.clear && isIn(canvas, pic.left + x, pic.top + y)) {
                        canvas[pic.top + y][pic.left + x] = paletteOf(pic).get(number);
                    }
                }
            }
        }
        int count = 0;
        for (int[] row : canvas) {
            for (int colour : row) {
                count += colour == -1 ? 0 : 1;
            }
        }
        return count;
    }

    private static int[][] copy(int[][] rows) {
        int[][] made = new int[rows.length][];
        for (int y = 0; y < rows.length; y++) {
            made[y] = rows[y].clone();
        }
        return made;
    }

    private void dispose(Pic pic, int[][] old) {
        if (pic.disposal == 3) {
            canvas = copy(old);
        }
        for (int y = 0; pic.disposal == 2 && y < pic.pixels.length; y++) {
            for (int x = 0; x < pic.pixels[y].length; x++) {
                if (isIn(canvas, pic.left + x, pic.top + y)) {
                    canvas[pic.top + y][pic.left + x] = -1;
                }
            }
        }
    }

    int shown(int x, int y) {
        if (!isIn(canvas, x, y)) {
            throw index();
        }
        return canvas[y][x];
    }

    // The picture

    void paint(int x, int y, int rgb) {
        if (!isIn(picture, x, y)) {
            throw index();
        }
        picture[y][x] = rgb & 0xFFFFFF;
    }

    private static int[] parts(int rgb) {
        return new int[] {rgb / 65536, rgb / 256 % 256, rgb % 256};
    }

    private static int difference(List<Integer> box, int part) {
        int least = 255;
        int greatest = 0;
        for (int rgb : box) {
            least = Math.min(least, parts(rgb)[part]);
            greatest = Math.max(greatest, parts(rgb)[part]);
        }
        return greatest - least;
    }

    private static int spread(List<Integer> box) {
        return Math.max(difference(box, 0), Math.max(difference(box, 1), difference(box, 2)));
    }

    int reduce(int n, int mode) {
        if (n < 1 || n > 16 || mode < 0 || mode > 2) {
            throw argument();
        }
        int f = frame(0, 0, width, height);
        Map<Integer, Integer> often = new TreeMap<>();
        for (int[] row : picture) {
            for (int rgb : row) {
                often.merge(rgb, 1, Integer::sum);
            }
        }
        List<List<Integer>> boxes = new ArrayList<>();
        boxes.add(new ArrayList<>(often.keySet()));
        while (boxes.size() < n && boxes.stream().anyMatch(box -> box.size() > 1)) {
            part(boxes, often);
        }
        List<Integer> means = new ArrayList<>();
        for (List<Integer> box : boxes) {
            means.add(mean(box, often));
        }
        int size = boxes.size() <= 2 ? 2 : boxes.size() <= 4 ? 4 : boxes.size() <= 8 ? 8 : 16;
        pics.get(f).own = new ArrayList<>(means);
        while (pics.get(f).own.size() < size) {
            pics.get(f).own.add(0);
        }
        settle(pics.get(f).pixels, means, mode);
        return boxes.size();
    }

    private static void part(List<List<Integer>> boxes, Map<Integer, Integer> often) {
        List<Integer> widest = boxes.get(0);
        for (List<Integer> box : boxes) {
            if (spread(box) > spread(widest)) {
                widest = box;
            }
        }
        int part = 0;
        while (difference(widest, part) != spread(widest)) {
            part++;
        }
        int by = part;
        widest.sort(Comparator.comparingInt((Integer rgb) -> parts(rgb)[by]).thenComparingInt(rgb -> rgb));
        int all = 0;
        for (int rgb : widest) {
            all += often.get(rgb);
        }
        int stay = 0;
        int sum = 0;
        while (sum * 2 < all) {
            sum += often.get(widest.get(stay++));
        }
        stay = Math.min(stay, widest.size() - 1);
        List<Integer> others = new ArrayList<>(widest.subList(stay, widest.size()));
        widest.subList(stay, widest.size()).clear();
        boxes.add(others);
    }

    private static int mean(List<Integer> box, Map<Integer, Integer> often) {
        int[] sums = new int[3];
        int number = 0;
        for (int rgb : box) {
            number += often.get(rgb);
            for (int part = 0; part < 3; part++) {
                sums[part] += often.get(rgb) * parts(rgb)[part];
            }
        }
        return sums[0] / number * 65536 + sums[1] / number * 256 + sums[2] / number;
    }

    private static int nearest(List<Integer> means, int[] wanted) {
        int best = -1;
        int least = Integer.MAX_VALUE;
        for (int k = 0; k < means.size(); k++) {
            int sum = 0;
            for (int part = 0; part < 3; part++) {
                int d = wanted[part] - parts(means.get(k))[part];
                sum += d * d;
            }
            if (sum < least) {
                best = k;
                least = sum;
            }
        }
        return best;
    }

    private void settle(int[][] pixels, List<Integer> means, int mode) {
        int[][][] errors = new int[height + 2][width + 2][3];
        for (int y = 0; y < height; y++) {
            int ahead = y % 2 == 0 ? 1 : -1;
            for (int x = ahead == 1 ? 0 : width - 1; x >= 0 && x < width; x += ahead) {
                int rgb = picture[y][x];
                if (means.contains(rgb)) {
                    pixels[y][x] = means.indexOf(rgb);
                    continue;
                }
                int[] wanted = parts(rgb);
                int number = y % 2 == 0 ? (x % 2 == 0 ? -24 : 8) : (x % 2 == 0 ? 24 : -8);
                for (int part = 0; part < 3; part++) {
                    wanted[part] += mode == 1 ? number : mode == 2 ? errors[y][x + 1][part] / 16 : 0;
                    wanted[part] = wanted[part] < 0 ? 0 : wanted[part] > 255 ? 255 : wanted[part];
                }
                pixels[y][x] = nearest(means, wanted);
                for (int part = 0; part < 3; part++) {
                    int more = wanted[part] - parts(means.get(pixels[y][x]))[part];
                    errors[y][x + 1 + ahead][part] += 7 * more;
                    errors[y + 1][x + 1 - ahead][part] += 3 * more;
                    errors[y + 1][x + 1][part] += 5 * more;
                    errors[y + 1][x + 1 + ahead][part] += more;
                }
            }
        }
    }
}
