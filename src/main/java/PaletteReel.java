import java.util.Arrays;

/** A reel of small pictures with palettes; ../shared/DOC.md numbers what it promises. */
public final class PaletteReel {
    public static final int NONE = -1;

    // Stands for the reel itself where a frame's number is asked for.
    private static final int REEL = -1;
    private static final int MOST_FRAMES = 4;
    private static final int MOST_COLOURS = 16;
    private static final int MOST_BYTES = 800;
    private static final int MOST_DELAY = 255;
    private static final int MOST_DISPOSAL = 3;
    private static final int BYTE = 255;
    private static final int WHITE = 0xFFFFFF;

    // Rows lie this far apart in every array of places, whatever the width, so that the
    // arrays are made once and serve each size that a later read may bring.
    private static final int SIDE = 8;
    private static final int PLACES = SIDE * SIDE;

    private static final int FIRST_MARK = 80;
    private static final int SECOND_MARK = 49;
    private static final int SETTING_MARK = 33;
    private static final int FRAME_MARK = 44;
    private static final int COMMENT_MARK = 254;
    private static final int LAST_MARK = 59;
    private static final int HAS_CLEAR = 16;
    private static final int IS_WOVEN = 1;
    private static final int HAS_PALETTE = 2;
    private static final int PALETTE_SHIFT = 2;
    private static final int FULL_BLOCK = 20;
    private static final int LEAST_CODE_BITS = 2;
    private static final int MOST_CODE_BITS = 4;
    private static final int LAST_ENTRY = 63;
    private static final int LAST_ENTRY_BITS = 6;

    private static final int[] PASS_STARTS = {0, 4, 2, 1};
    private static final int[] PASS_STEPS = {8, 8, 4, 2};

    private static final int PARTS = 3;
    private static final int MODE_PATTERN = 1;
    private static final int MODE_ERROR = 2;
    private static final int[] PATTERN = {-24, 8, 24, -8};

    private final ByteRow bytes;
    private final Packer packer;
    private final Parser parser;
    private final int[] picture;
    private final Reducer reducer;
    private final Canvas canvas = new Canvas();
    private Reel reel = new Reel();
    // A read fills this one, and the two change places only when all went well.
    private Reel spare = new Reel();

    public PaletteReel(int width, int height) {
        ByteRow row = new ByteRow(MOST_BYTES);
        bytes = row;
        packer = new Packer(row);
        parser = new Parser(row);
        int[] places = new int[PLACES];
        picture = places;
        reducer = new Reducer(places);
        reel.begin(Math.max(1, Math.min(SIDE, width)), Math.max(1, Math.min(SIDE, height)), 2);
        canvas.empty();
    }

    public int palette(int f, int bits) throws IndexOutOfBoundsException, IllegalArgumentException {
        requireOwner(f);
        if (bits < (f == REEL ? 1 : 0) || bits > 4) {
            throw new IllegalArgumentException("no such number of bits");
        }
        int wanted = bits == 0 ? 0 : 1 << bits;
        if (!(f == REEL ? reel.allowsShared(wanted) : reel.allowsOwn(f, wanted))) {
            throw new IllegalArgumentException("a number would be none of its palette");
        }
        ownPalette(f).resize(wanted);
        return wanted;
    }

    public void colour(int f, int k, int rgb) throws IndexOutOfBoundsException {
        requireOwner(f);
        Palette palette = ownPalette(f);
        if (!palette.has(k)) {
            throw new IndexOutOfBoundsException("no such colour of its own");
        }
        palette.put(k, rgb);
    }

    public int frame(int left, int top, int width, int height)
            throws IllegalArgumentException, IllegalStateException {
        if (!isWithin(left, 0, SIDE - 1) || !isWithin(top, 0, SIDE - 1)
                || !isWithin(width, 1, SIDE) || !isWithin(height, 1, SIDE)) {
            throw new IllegalArgumentException("no such rectangle");
        }
        requireRoom();
        reel.add(left, top, width, height);
        return reel.count - 1;
    }

    public void pixel(int f, int x, int y, int number)
            throws IndexOutOfBoundsException, IllegalArgumentException {
        requirePixel(f, x, y);
        Frame frame = reel.frames[f];
        if (!reel.paletteOf(frame).has(number)) {
            throw new IllegalArgumentException("none of the palette");
        }
        frame.pixels[placeOf(x, y)] = number;
    }

    public void set(int f, int disposal, int delay, int clear, boolean woven)
            throws IndexOutOfBoundsException, IllegalArgumentException {
        requireFrame(f);
        Frame frame = reel.frames[f];
        if (!isWithin(disposal, 0, MOST_DISPOSAL) || !isWithin(delay, 0, MOST_DELAY)
                || clear != NONE && !reel.paletteOf(frame).has(clear)) {
            throw new IllegalArgumentException("out of its range");
        }
        frame.disposal = disposal;
        frame.delay = delay;
        frame.clear = clear;
        frame.woven = woven;
    }

    public int cut() {
        int were = reel.count;
        reel.count = 0;
        return were;
    }

    public int frames() {
        return reel.count;
    }

    public int get(int f, int what) throws IndexOutOfBoundsException {
        requireOwner(f);
        if (!isWithin(what, 0, 8)) {
            throw new IndexOutOfBoundsException("no such what");
        }
        return f == REEL ? reel.tell(what) : reel.frames[f].tell(what);
    }

    public int colourAt(int f, int k) throws IndexOutOfBoundsException {
        requireOwner(f);
        Palette palette = f == REEL ? reel.shared : reel.paletteOf(reel.frames[f]);
        if (!palette.has(k)) {
            throw new IndexOutOfBoundsException("no such colour");
        }
        return palette.colours[k];
    }

    public int pixelAt(int f, int x, int y) throws IndexOutOfBoundsException {
        requirePixel(f, x, y);
        return reel.frames[f].pixels[placeOf(x, y)];
    }

    public int write() {
        bytes.length = 0;
        packer.packReel(reel);
        return bytes.length;
    }

    public int feed(long w, int n) {
        if (!isWithin(n, 1, 8) || bytes.length + n > MOST_BYTES) {
            return NONE;
        }
        for (int i = 0; i < n; i++) {
            bytes.add((int) (w >>> (8 * i)) & BYTE);
        }
        return bytes.length;
    }

    public int wipe() {
        int were = bytes.length;
        bytes.length = 0;
        return were;
    }

    public boolean spoil(int k, int value) {
        if (!bytes.has(k)) {
            return false;
        }
        bytes.cells[k] = value & BYTE;
        return true;
    }

    public int byteAt(int k) {
        return bytes.has(k) ? bytes.cells[k] : NONE;
    }

    public int read() throws IllegalArgumentException {
        if (!parser.parseInto(spare)) {
            throw new IllegalArgumentException("not well formed");
        }
        if (spare.width != reel.width || spare.height != reel.height) {
            Arrays.fill(picture, 0);
        }
        Reel old = reel;
        reel = spare;
        spare = old;
        canvas.empty();
        return reel.count;
    }

    public int draw(int n) throws IllegalArgumentException {
        if (!isWithin(n, 0, reel.count)) {
            throw new IllegalArgumentException("not so many frames");
        }
        canvas.showFirst(reel, n);
        return canvas.countColours();
    }

    public int shown(int x, int y) throws IndexOutOfBoundsException {
        requirePlace(x, y);
        return canvas.places[placeOf(x, y)];
    }

    public void paint(int x, int y, int rgb) throws IndexOutOfBoundsException {
        requirePlace(x, y);
        picture[placeOf(x, y)] = rgb & WHITE;
    }

    public int reduce(int n, int mode) throws IllegalArgumentException, IllegalStateException {
        if (!isWithin(n, 1, MOST_COLOURS) || !isWithin(mode, 0, MODE_ERROR)) {
            throw new IllegalArgumentException("no such number of colours, or mode");
        }
        requireRoom();
        return reducer.bringTo(reel.add(0, 0, reel.width, reel.height), n, mode);
    }

    private void requireFrame(int f) {
        if (!isWithin(f, 0, reel.count - 1)) {
            throw new IndexOutOfBoundsException("no such frame");
        }
    }

    private void requireOwner(int f) {
        if (f != REEL) {
            requireFrame(f);
        }
    }

    private void requirePixel(int f, int x, int y) {
        requireFrame(f);
        Frame frame = reel.frames[f];
        if (!isInside(x, y, frame.width, frame.height)) {
            throw new IndexOutOfBoundsException("no such pixel");
        }
    }

    private void requirePlace(int x, int y) {
        if (!isInside(x, y, reel.width, reel.height)) {
            throw new IndexOutOfBoundsException("no such place");
        }
    }

    private void requireRoom() {
        if (reel.count >= MOST_FRAMES) {
            throw new IllegalStateException("no room for one more frame");
        }
    }

    private Palette ownPalette(int f) {
        return f == REEL ? reel.shared : reel.frames[f].own;
    }

    private static boolean isWithin(int value, int low, int high) {
        return value >= low && value <= high;
    }

    private static boolean isInside(int x, int y, int width, int height) {
        return x >= 0 && x < width && y >= 0 && y < height;
    }

    private static int placeOf(int x, int y) {
        return y * SIDE + x;
    }

    private static int partOf(int rgb, int part) {
        return rgb >> (8 * (PARTS - 1 - part)) & BYTE;
    }

    /** The least number of bits whose palette has so many colours, 1 at least. */
    private static int paletteBits(int colours) {
        int bits = 1;
        while (bits < MOST_CODE_BITS && 1 << bits < colours) {
            bits++;
        }
        return bits;
    }

    private static final class Palette {
        private final int[] colours = new int[MOST_COLOURS];
        private int count;

        boolean has(int k) {
            return k >= 0 && k < count;
        }

        void put(int k, int rgb) {
            colours[k] = rgb & WHITE;
        }

        void resize(int wanted) {
            // What lies behind the colours is kept 0, for colours that come anew are.
            for (int k = Math.min(count, wanted); k < MOST_COLOURS; k++) {
                colours[k] = 0;
            }
            count = wanted;
        }
    }

    private static final class Frame {
        private final int[] pixels = new int[PLACES];
        private final Palette own = new Palette();
        private int left;
        private int top;
        private int width;
        private int height;
        private int disposal;
        private int delay;
        private int clear;
        private boolean woven;

        void begin(int newLeft, int newTop, int newWidth, int newHeight) {
            left = newLeft;
            top = newTop;
            width = newWidth;
            height = newHeight;
            disposal = 0;
            delay = 0;
            clear = NONE;
            woven = false;
            own.resize(0);
            Arrays.fill(pixels, 0);
        }

        boolean fitsIn(int colours) {
            int greatest = clear;
            for (int place = 0; place < PLACES; place++) {
                greatest = Math.max(greatest, pixels[place]);
            }
            return greatest < colours;
        }

        int tell(int what) {
            switch (what) {
                case 0: return left;
                case 1: return top;
                case 2: return width;
                case 3: return height;
                case 4: return own.count;
                case 5: return disposal;
                case 6: return delay;
                case 7: return clear;
                default: return woven ? 1 : 0;
            }
        }

        /** Puts the places of the pixels into the list in the order of the bytes: how many. */
        int listPlaces(int[] list) {
            int listed = 0;
            int passes = woven ? PASS_STARTS.length : 1;
            for (int pass = 0; pass < passes; pass++) {
                int step = woven ? PASS_STEPS[pass] : 1;
                for (int y = PASS_STARTS[pass]; y < height; y += step) {
                    for (int x = 0; x < width; x++) {
                        list[listed] = placeOf(x, y);
                        listed++;
                    }
                }
            }
            return listed;
        }
    }

    private static final class Reel {
        private final Palette shared = new Palette();
        private final Frame[] frames = new Frame[MOST_FRAMES];
        private int width;
        private int height;
        private int count;

        Reel() {
            for (int f = 0; f < MOST_FRAMES; f++) {
                frames[f] = new Frame();
            }
        }

        void begin(int newWidth, int newHeight, int colours) {
            width = newWidth;
            height = newHeight;
            count = 0;
            shared.resize(colours);
        }

        /** The caller has looked that there is room. */
        Frame add(int left, int top, int frameWidth, int frameHeight) {
            Frame added = frames[count];
            added.begin(left, top, frameWidth, frameHeight);
            count++;
            return added;
        }

        Palette paletteOf(Frame frame) {
            return frame.own.count > 0 ? frame.own : shared;
        }

        boolean allowsOwn(int f, int colours) {
            return frames[f].fitsIn(colours > 0 ? colours : shared.count);
        }

        boolean allowsShared(int colours) {
            for (int f = 0; f < count; f++) {
                if (frames[f].own.count == 0 && !frames[f].fitsIn(colours)) {
                    return false;
                }
            }
            return true;
        }

        int tell(int what) {
            switch (what) {
                case 2: return width;
                case 3: return height;
                case 4: return shared.count;
                default: return 0;
            }
        }
    }

    private static final class ByteRow {
        private final int[] cells;
        private int length;

        ByteRow(int most) {
            cells = new int[most];
        }

        boolean has(int k) {
            return k >= 0 && k < length;
        }

        void add(int value) {
            if (length < cells.length) {
                cells[length] = value;
                length++;
            }
        }
    }

    /** The codes and the strings of pixels that they stand for, the same for both ways. */
    private static final class Strings {
        private final int[] starts = new int[LAST_ENTRY + 1];
        private final int[] firsts = new int[LAST_ENTRY + 1];
        private final int[] lasts = new int[LAST_ENTRY + 1];
        private final int[] sizes = new int[LAST_ENTRY + 1];
        private int fresh;
        private int end;
        private int next;
        private int before;

        void begin(int bits) {
            fresh = 1 << bits;
            end = fresh + 1;
            for (int code = 0; code < fresh; code++) {
                firsts[code] = code;
                lasts[code] = code;
                sizes[code] = 1;
            }
            refresh();
        }

        void refresh() {
            next = end + 1;
            before = NONE;
        }

        boolean isFull() {
            return next > LAST_ENTRY;
        }

        private boolean makesEntry() {
            return before != NONE && next <= LAST_ENTRY;
        }

        int bits() {
            int greatest = before == NONE ? end : Math.min(next, LAST_ENTRY);
            int bits = 0;
            while (bits < LAST_ENTRY_BITS && 1 << bits <= greatest) {
                bits++;
            }
            return bits;
        }

        boolean allows(int code) {
            return code < fresh || code > end && code < next || code == next && makesEntry();
        }

        int firstOf(int code) {
            return code < next ? firsts[code] : firsts[before];
        }

        /** The entry that a code makes here whose string begins with this pixel. */
        void makeEntry(int pixel) {
            if (makesEntry()) {
                starts[next] = before;
                firsts[next] = firsts[before];
                lasts[next] = pixel;
                sizes[next] = sizes[before] + 1;
                next++;
            }
        }

        /** The entry whose string is that of the code and the pixel behind it, or NONE. */
        int longer(int code, int pixel) {
            for (int entry = end + 1; entry < next; entry++) {
                if (starts[entry] == code && lasts[entry] == pixel) {
                    return entry;
                }
            }
            return NONE;
        }
    }

    private static final class Packer {
        private final Strings strings = new Strings();
        private final int[] order = new int[PLACES];
        // Each pixel takes one code of 6 bits at most, and few others come to these.
        private final ByteRow data = new ByteRow(PLACES);
        private final ByteRow target;
        private int filling;
        private int filled;

        Packer(ByteRow row) {
            target = row;
        }

        void packReel(Reel reel) {
            target.add(FIRST_MARK);
            target.add(SECOND_MARK);
            target.add(reel.width);
            target.add(reel.height);
            target.add(paletteBits(reel.shared.count) - 1);
            packPalette(reel.shared);
            for (int f = 0; f < reel.count; f++) {
                Frame frame = reel.frames[f];
                packSettings(frame);
                packHead(frame);
                packData(frame, reel.paletteOf(frame).count);
            }
            target.add(LAST_MARK);
        }

        private void packPalette(Palette palette) {
            for (int k = 0; k < palette.count; k++) {
                for (int part = 0; part < PARTS; part++) {
                    target.add(partOf(palette.colours[k], part));
                }
            }
        }

        private void packSettings(Frame frame) {
            boolean hasClear = frame.clear != NONE;
            target.add(SETTING_MARK);
            target.add(frame.disposal + (hasClear ? HAS_CLEAR : 0));
            target.add(frame.delay);
            target.add(hasClear ? frame.clear : 0);
        }

        private void packHead(Frame frame) {
            int flags = frame.woven ? IS_WOVEN : 0;
            if (frame.own.count > 0) {
                flags += HAS_PALETTE + (paletteBits(frame.own.count) - 1 << PALETTE_SHIFT);
            }
            target.add(FRAME_MARK);
            target.add(frame.left);
            target.add(frame.top);
            target.add(frame.width);
            target.add(frame.height);
            target.add(flags);
            packPalette(frame.own);
        }

        private void packData(Frame frame, int colours) {
            int bits = Math.max(LEAST_CODE_BITS, paletteBits(colours));
            target.add(bits);
            data.length = 0;
            filling = 0;
            filled = 0;
            strings.begin(bits);
            packCodes(frame.pixels, frame.listPlaces(order));
            if (filled > 0) {
                data.add(filling);
            }
            packBlocks();
        }

        private void packCodes(int[] pixels, int total) {
            packCode(strings.fresh);
            int done = 0;
            for (int turn = 0; turn < total && done < total; turn++) {
                done += packString(pixels, done, total);
                if (strings.isFull() && done < total) {
                    packCode(strings.fresh);
                    strings.refresh();
                }
            }
            packCode(strings.end);
        }

        /** How many pixels the code that was written stands for. */
        private int packString(int[] pixels, int done, int total) {
            int bits = strings.bits();
            int code = pixels[order[done]];
            strings.makeEntry(code);
            int size = 1;
            for (int at = done + 1; at < total; at++) {
                int entry = strings.longer(code, pixels[order[at]]);
                if (entry == NONE) {
                    break;
                }
                code = entry;
                size++;
            }
            packBits(code, bits);
            strings.before = code;
            return size;
        }

        private void packCode(int code) {
            packBits(code, strings.bits());
        }

        private void packBits(int code, int bits) {
            for (int i = 0; i < bits; i++) {
                filling |= (code >> i & 1) << filled;
                filled++;
                if (filled == 8) {
                    data.add(filling);
                    filling = 0;
                    filled = 0;
                }
            }
        }

        private void packBlocks() {
            for (int start = 0; start < data.length; start += FULL_BLOCK) {
                int end = Math.min(data.length, start + FULL_BLOCK);
                target.add(end - start);
                for (int k = start; k < end; k++) {
                    target.add(data.cells[k]);
                }
            }
            target.add(0);
        }
    }

    /** Takes bytes one by one and remembers whether one was not as it should be. */
    private static final class Cursor {
        private final ByteRow source;
        private int at;
        private boolean sound;

        Cursor(ByteRow row) {
            source = row;
        }

        void rewind() {
            at = 0;
            sound = true;
        }

        void refuse() {
            sound = false;
        }

        boolean isDone() {
            return sound && at == source.length;
        }

        int take() {
            if (at >= source.length) {
                sound = false;
                return 0;
            }
            int taken = source.cells[at];
            at++;
            return taken;
        }

        /** The least one in place of a wrong one, so that nobody meets a value out of range. */
        int takeWithin(int low, int high) {
            int taken = take();
            if (taken < low || taken > high) {
                sound = false;
                return low;
            }
            return taken;
        }

        /** Puts what the blocks hold into the row: where in it the last block begins. */
        int takeBlocks(ByteRow held) {
            int lastStart = 0;
            held.length = 0;
            int size = take();
            for (int turn = 0; turn < MOST_BYTES && size > 0; turn++) {
                lastStart = held.length;
                for (int k = 0; k < size; k++) {
                    held.add(take());
                }
                size = take();
            }
            return lastStart;
        }
    }

    private static final class Parser {
        private final Cursor cursor;
        private final ByteRow held = new ByteRow(MOST_BYTES);
        private final Strings strings = new Strings();
        private final int[] order = new int[PLACES];
        private int bitsTaken;
        private int disposal;
        private int delay;
        private int clear;

        Parser(ByteRow source) {
            cursor = new Cursor(source);
        }

        /** Whether the bytes are well formed; if not, what the reel becomes means nothing. */
        boolean parseInto(Reel reel) {
            cursor.rewind();
            takeHead(reel);
            forgetSettings();
            for (int turn = 0; turn < MOST_BYTES && cursor.sound; turn++) {
                int mark = cursor.take();
                if (mark == LAST_MARK) {
                    return cursor.isDone();
                } else if (mark == SETTING_MARK) {
                    takeSettings();
                } else if (mark == COMMENT_MARK) {
                    cursor.takeBlocks(held);
                } else if (mark == FRAME_MARK && reel.count < MOST_FRAMES) {
                    takeFrame(reel);
                    forgetSettings();
                } else {
                    cursor.refuse();
                }
            }
            return false;
        }

        private void takeHead(Reel reel) {
            cursor.takeWithin(FIRST_MARK, FIRST_MARK);
            cursor.takeWithin(SECOND_MARK, SECOND_MARK);
            int width = cursor.takeWithin(1, SIDE);
            int height = cursor.takeWithin(1, SIDE);
            reel.begin(width, height, 2 << cursor.takeWithin(0, 3));
            takeColours(reel.shared);
        }

        private void takeColours(Palette palette) {
            for (int k = 0; k < palette.count; k++) {
                int rgb = 0;
                for (int part = 0; part < PARTS; part++) {
                    rgb = rgb << 8 | cursor.take();
                }
                palette.put(k, rgb);
            }
        }

        private void forgetSettings() {
            disposal = 0;
            delay = 0;
            clear = NONE;
        }

        private void takeSettings() {
            int first = cursor.take();
            boolean hasClear = first >= HAS_CLEAR;
            disposal = hasClear ? first - HAS_CLEAR : first;
            if (disposal > MOST_DISPOSAL) {
                cursor.refuse();
            }
            delay = cursor.take();
            int third = cursor.take();
            clear = hasClear ? third : NONE;
        }

        private void takeFrame(Reel reel) {
            Frame frame = takePlace(reel);
            takeFlags(frame);
            takeColours(frame.own);
            strings.begin(cursor.takeWithin(LEAST_CODE_BITS, MOST_CODE_BITS));
            int lastBlock = cursor.takeBlocks(held);
            bitsTaken = 0;
            boolean ended = takeCode() == strings.fresh && takeStrings(frame);
            boolean endedInLastBlock = ended && bitsTaken > lastBlock * 8;
            if (!endedInLastBlock || !frame.fitsIn(reel.paletteOf(frame).count)) {
                cursor.refuse();
            }
        }

        private Frame takePlace(Reel reel) {
            int left = cursor.takeWithin(0, SIDE - 1);
            int top = cursor.takeWithin(0, SIDE - 1);
            int width = cursor.takeWithin(1, SIDE);
            int height = cursor.takeWithin(1, SIDE);
            Frame frame = reel.add(left, top, width, height);
            frame.disposal = disposal;
            frame.delay = delay;
            frame.clear = clear;
            return frame;
        }

        private void takeFlags(Frame frame) {
            int flags = cursor.takeWithin(0, IS_WOVEN + HAS_PALETTE + (3 << PALETTE_SHIFT));
            frame.woven = (flags & IS_WOVEN) != 0;
            if ((flags & HAS_PALETTE) != 0) {
                frame.own.resize(2 << (flags >> PALETTE_SHIFT));
            } else if (flags > IS_WOVEN) {
                cursor.refuse();
            }
        }

        /** Whether the end came behind just as many pixels as the frame should have. */
        private boolean takeStrings(Frame frame) {
            int total = frame.listPlaces(order);
            int done = 0;
            for (int turn = 0; turn < MOST_BYTES * 8 && cursor.sound; turn++) {
                int code = takeCode();
                if (code == strings.end) {
                    return done == total;
                } else if (code == strings.fresh) {
                    strings.refresh();
                } else if (strings.allows(code)) {
                    done += takeString(frame.pixels, code, done, total);
                } else {
                    return false;
                }
            }
            return false;
        }

        private int takeCode() {
            int code = 0;
            int bits = strings.bits();
            for (int i = 0; i < bits; i++) {
                int k = bitsTaken / 8;
                if (k >= held.length) {
                    cursor.refuse();
                    return 0;
                }
                code |= (held.cells[k] >> bitsTaken % 8 & 1) << i;
                bitsTaken++;
            }
            return code;
        }

        /** How many pixels the code stands for. */
        private int takeString(int[] pixels, int code, int done, int total) {
            strings.makeEntry(strings.firstOf(code));
            strings.before = code;
            int size = strings.sizes[code];
            if (done + size > total) {
                cursor.refuse();
                return 0;
            }
            int rest = code;
            for (int at = done + size - 1; at >= done; at--) {
                pixels[order[at]] = strings.lasts[rest];
                rest = strings.starts[rest];
            }
            return size;
        }
    }

    private static final class Canvas {
        private final int[] places = new int[PLACES];
        private final int[] saved = new int[PLACES];

        void empty() {
            Arrays.fill(places, NONE);
        }

        void showFirst(Reel reel, int n) {
            empty();
            for (int f = 0; f < n; f++) {
                if (f > 0) {
                    dispose(reel, reel.frames[f - 1]);
                }
                System.arraycopy(places, 0, saved, 0, PLACES);
                lay(reel, reel.frames[f], reel.paletteOf(reel.frames[f]));
            }
        }

        int countColours() {
            int count = 0;
            for (int place = 0; place < PLACES; place++) {
                count += places[place] == NONE ? 0 : 1;
            }
            return count;
        }

        private void lay(Reel reel, Frame frame, Palette palette) {
            int right = Math.min(frame.width, reel.width - frame.left);
            int bottom = Math.min(frame.height, reel.height - frame.top);
            for (int y = 0; y < bottom; y++) {
                for (int x = 0; x < right; x++) {
                    int number = frame.pixels[placeOf(x, y)];
                    if (number != frame.clear) {
                        places[placeOf(frame.left + x, frame.top + y)] = palette.colours[number];
                    }
                }
            }
        }

        private void dispose(Reel reel, Frame frame) {
            if (frame.disposal == 2) {
                clearUnder(reel, frame);
            } else if (frame.disposal == 3) {
                System.arraycopy(saved, 0, places, 0, PLACES);
            }
        }

        private void clearUnder(Reel reel, Frame frame) {
            int right = Math.min(frame.left + frame.width, reel.width);
            int bottom = Math.min(frame.top + frame.height, reel.height);
            for (int y = frame.top; y < bottom; y++) {
                for (int x = frame.left; x < right; x++) {
                    places[placeOf(x, y)] = NONE;
                }
            }
        }
    }

    /** Brings a picture to few colours; a box is a stretch of the row of different colours. */
    private static final class Reducer {
        private final int[] picture;
        private final int[] colours = new int[PLACES];
        private final int[] counts = new int[PLACES];
        private final int[] starts = new int[MOST_COLOURS];
        private final int[] ends = new int[MOST_COLOURS];
        private final int[] means = new int[MOST_COLOURS];
        private final int[] errors = new int[PLACES * PARTS];
        private final int[] wanted = new int[PARTS];
        private int different;
        private int boxes;
        private int mode;

        Reducer(int[] source) {
            picture = source;
        }

        /** Fills the frame, which is as large as the picture: how many boxes there were. */
        int bringTo(Frame frame, int most, int newMode) {
            mode = newMode;
            gatherColours(frame.width, frame.height);
            partBoxes(most);
            frame.own.resize(1 << paletteBits(boxes));
            for (int box = 0; box < boxes; box++) {
                means[box] = meanOf(box);
                frame.own.put(box, means[box]);
            }
            Arrays.fill(errors, 0);
            for (int y = 0; y < frame.height; y++) {
                settleRow(frame, y);
            }
            return boxes;
        }

        private void gatherColours(int width, int height) {
            different = 0;
            for (int y = 0; y < height; y++) {
                for (int x = 0; x < width; x++) {
                    countColour(picture[placeOf(x, y)]);
                }
            }
        }

        private void countColour(int rgb) {
            for (int i = 0; i < different; i++) {
                if (colours[i] == rgb) {
                    counts[i]++;
                    return;
                }
            }
            colours[different] = rgb;
            counts[different] = 1;
            different++;
        }

        private void partBoxes(int most) {
            boxes = 1;
            starts[0] = 0;
            ends[0] = different;
            for (int turn = 1; turn < most; turn++) {
                int box = widestBox();
                if (ends[box] - starts[box] < 2) {
                    return;
                }
                partBox(box);
            }
        }

        /** A box of one colour has no spread, so it is the widest only when all are such. */
        private int widestBox() {
            int widest = 0;
            for (int box = 1; box < boxes; box++) {
                if (spreadOf(box, widestPart(box)) > spreadOf(widest, widestPart(widest))) {
                    widest = box;
                }
            }
            return widest;
        }

        private int widestPart(int box) {
            int widest = 0;
            for (int part = 1; part < PARTS; part++) {
                if (spreadOf(box, part) > spreadOf(box, widest)) {
                    widest = part;
                }
            }
            return widest;
        }

        private int spreadOf(int box, int part) {
            int least = BYTE;
            int greatest = 0;
            for (int i = starts[box]; i < ends[box]; i++) {
                int value = partOf(colours[i], part);
                least = Math.min(least, value);
                greatest = Math.max(greatest, value);
            }
            return greatest - least;
        }

        private void partBox(int box) {
            sortBox(box, widestPart(box));
            int border = borderOf(box);
            starts[boxes] = border;
            ends[boxes] = ends[box];
            ends[box] = border;
            boxes++;
        }

        private void sortBox(int box, int part) {
            for (int i = starts[box] + 1; i < ends[box]; i++) {
                for (int k = i; k > starts[box] && standsBefore(k, k - 1, part); k--) {
                    swap(k, k - 1);
                }
            }
        }

        private boolean standsBefore(int i, int k, int part) {
            int one = partOf(colours[i], part);
            int other = partOf(colours[k], part);
            return one < other || one == other && colours[i] < colours[k];
        }

        private void swap(int i, int k) {
            int colour = colours[i];
            int count = counts[i];
            colours[i] = colours[k];
            counts[i] = counts[k];
            colours[k] = colour;
            counts[k] = count;
        }

        /** Where the colours begin that do not stay in the box. */
        private int borderOf(int box) {
            int all = pixelsOf(box);
            int staying = 0;
            for (int i = starts[box]; i < ends[box] - 1; i++) {
                staying += counts[i];
                if (2 * staying >= all) {
                    return i + 1;
                }
            }
            return ends[box] - 1;
        }

        private int pixelsOf(int box) {
            int pixels = 0;
            for (int i = starts[box]; i < ends[box]; i++) {
                pixels += counts[i];
            }
            return pixels;
        }

        private int meanOf(int box) {
            int pixels = Math.max(1, pixelsOf(box));
            int mean = 0;
            for (int part = 0; part < PARTS; part++) {
                int sum = 0;
                for (int i = starts[box]; i < ends[box]; i++) {
                    sum += counts[i] * partOf(colours[i], part);
                }
                mean = mean << 8 | sum / pixels;
            }
            return mean;
        }

        private void settleRow(Frame frame, int y) {
            boolean even = (y & 1) == 0;
            int ahead = even ? 1 : -1;
            for (int step = 0; step < frame.width; step++) {
                int x = even ? step : frame.width - 1 - step;
                int box = boxWith(picture[placeOf(x, y)]);
                if (box == NONE) {
                    wish(x, y);
                    box = nearestBox();
                    handOn(frame, x, y, ahead, means[box]);
                }
                frame.pixels[placeOf(x, y)] = box;
            }
        }

        private int boxWith(int rgb) {
            for (int box = 0; box < boxes; box++) {
                if (means[box] == rgb) {
                    return box;
                }
            }
            return NONE;
        }

        private void wish(int x, int y) {
            int place = placeOf(x, y);
            for (int part = 0; part < PARTS; part++) {
                int value = partOf(picture[place], part);
                if (mode == MODE_PATTERN) {
                    value += PATTERN[(y & 1) * 2 + (x & 1)];
                } else {
                    // Outside the mode that hands errors on, all of them are 0.
                    value += errors[place * PARTS + part] / 16;
                }
                wanted[part] = Math.max(0, Math.min(BYTE, value));
            }
        }

        private int nearestBox() {
            int nearest = 0;
            for (int box = 1; box < boxes; box++) {
                if (distanceTo(means[box]) < distanceTo(means[nearest])) {
                    nearest = box;
                }
            }
            return nearest;
        }

        private int distanceTo(int rgb) {
            int sum = 0;
            for (int part = 0; part < PARTS; part++) {
                int difference = wanted[part] - partOf(rgb, part);
                sum += difference * difference;
            }
            return sum;
        }

        private void handOn(Frame frame, int x, int y, int ahead, int got) {
            if (mode == MODE_ERROR) {
                addError(frame, x + ahead, y, 7, got);
                addError(frame, x - ahead, y + 1, 3, got);
                addError(frame, x, y + 1, 5, got);
                addError(frame, x + ahead, y + 1, 1, got);
            }
        }

        private void addError(Frame frame, int x, int y, int times, int got) {
            if (isInside(x, y, frame.width, frame.height)) {
                for (int part = 0; part < PARTS; part++) {
                    errors[placeOf(x, y) * PARTS + part] += times * (wanted[part] - partOf(got, part));
                }
            }
        }
    }
}
