import java.util.List;
import java.util.Random;

/** All promises: long runs of calls of any kind, each answer against that of the model. */
public final class ModelTest {
    private static final String[] NAMES = {"palette", "colour", "frame", "pixel", "set", "cut", "frames",
        "get", "colourAt", "pixelAt", "write", "feed", "wipe", "spoil", "byteAt", "read", "draw", "shown",
        "paint", "reduce"};
    private static final int CALLS = 100;
    private static final int RUNS = 15000;
    // An object is used for so many calls, and what it answers then is free.
    private static final int CALLS_OF_ONE = 512;

    private final Random random;
    private final PaletteReel own;
    private final Model model;
    private final StringBuilder told = new StringBuilder();
    private int used;
    private static int reads;
    private static int refused;

    private ModelTest(int seed) {
        random = new Random(seed);
        int width = any(-1, 10);
        int height = any(-1, 10);
        own = new PaletteReel(width, height);
        model = new Model(width, height);
        told.append("run ").append(seed).append(": new(").append(width).append(", ").append(height).append(")");
    }

    public static void main(String[] args) {
        for (int seed = 0; seed < RUNS; seed++) {
            ModelTest run = new ModelTest(seed);
            if (!run.calls() || !run.looks(seed % 3)) {
                break;
            }
        }
        System.out.println(reads + " times read, " + refused + " times refused");
        Check.due("enough was read", reads > RUNS / 2, true);
        Check.due("enough was refused", refused > RUNS / 2, true);
        Check.end();
    }

    private int any(int low, int high) {
        return low + random.nextInt(high - low + 1);
    }

    private boolean chance(int percent) {
        return random.nextInt(100) < percent;
    }

    /** Now and then far out of any range. */
    private int wild(int low, int high) {
        if (chance(1)) {
            return random.nextInt();
        }
        return chance(3) ? any(low - 2, high + 2) : any(low, high);
    }

    private boolean calls() {
        int flavour = any(0, 4);
        for (int i = 0; i < CALLS; i++) {
            boolean same;
            if (flavour == 0 && chance(30)) {
                same = looseBytes();
            } else if (flavour == 1 && chance(20)) {
                same = fillPicture();
            } else if (flavour == 2 && chance(10)) {
                same = fillFrame();
            } else {
                same = call(any(0, NAMES.length - 1));
            }
            if (!same) {
                return false;
            }
        }
        return true;
    }

    /** Whether the object may be used for so many calls more; they are counted then. */
    private boolean mayUse(int calls) {
        boolean may = used + calls <= CALLS_OF_ONE;
        used += may ? calls : 0;
        return may;
    }

    private boolean looseBytes() {
        int width = chance(50) ? model.width : any(1, 8);
        int height = chance(50) ? model.height : any(1, 8);
        List<Integer> bytes = new LooseReel(random).make(width, height);
        if (bytes.size() > 800 || !mayUse(1 + (bytes.size() + 7) / 8)) {
            return true;
        }
        Check.give(own, bytes);
        model.bytes.clear();
        model.bytes.addAll(bytes);
        told.append("\n  bytes ").append(Check.texts(bytes));
        return ask(15, 0, 0, 0, 0, 0);
    }

    private boolean fillPicture() {
        if (!mayUse(model.width * model.height)) {
            return true;
        }
        int few = any(1, 20);
        int step = chance(50) ? 1 : chance(50) ? 16 : 64;
        int[] colours = new int[few];
        for (int k = 0; k < few; k++) {
            int stepped = any(0, 3) * 65536 * step + any(0, 3) * 256 * step + any(0, 3) * step;
            colours[k] = chance(40) ? random.nextInt() : stepped;
        }
        for (int y = 0; y < model.height; y++) {
            for (int x = 0; x < model.width; x++) {
                int rgb = chance(10) ? random.nextInt() : colours[random.nextInt(few)];
                own.paint(x, y, rgb);
                model.paint(x, y, rgb);
                told.append("\n  paint ").append(x).append(' ').append(y).append(' ').append(rgb);
            }
        }
        return ask(5, 0, 0, 0, 0, 0) && ask(19, any(1, 16), 0, 0, 0, 0)
            && ask(19, any(1, 16), 1, 0, 0, 0) && ask(19, any(1, 16), 2, 0, 0, 0);
    }

    private boolean fillFrame() {
        int f = any(0, 3);
        if (f >= model.pics.size() || !mayUse(model.get(f, 2) * model.get(f, 3))) {
            return true;
        }
        int few = any(1, model.pics.get(f).own == null ? model.palette.size() : model.pics.get(f).own.size());
        for (int y = 0; y < model.get(f, 3); y++) {
            for (int x = 0; x < model.get(f, 2); x++) {
                int number = random.nextInt(few);
                own.pixel(f, x, y, number);
                model.pixel(f, x, y, number);
                told.append("\n  pixel ").append(f).append(' ').append(x).append(' ').append(y).append(' ')
                    .append(number);
            }
        }
        return ask(10, 0, 0, 0, 0, 0) && ask(15, 0, 0, 0, 0, 0);
    }

    private boolean call(int op) {
        switch (NAMES[op]) {
            case "palette": return ask(op, wild(-1, 3), wild(0, 4), 0, 0, 0);
            case "colour": return ask(op, wild(-1, 3), wild(0, 15), random.nextInt(), 0, 0);
            case "frame": return ask(op, wild(0, 7), wild(0, 7), wild(1, 8), wild(1, 8), 0);
            case "pixel": return ask(op, wild(0, 3), wild(0, 7), wild(0, 7), wild(0, 15), 0);
            case "set": return ask(op, wild(0, 3), wild(0, 3), wild(0, 255), wild(-1, 3), any(0, 1));
            case "cut": return chance(80) || ask(op, 0, 0, 0, 0, 0);
            case "get": return ask(op, wild(-1, 3), wild(0, 8), 0, 0, 0);
            case "colourAt": return ask(op, wild(-1, 3), wild(0, 15), 0, 0, 0);
            case "pixelAt": return ask(op, wild(0, 3), wild(0, 7), wild(0, 7), 0, 0);
            case "feed": return ask(op, random.nextInt(), random.nextInt(), wild(1, 8), 0, 0);
            case "wipe": return chance(80) || ask(op, 0, 0, 0, 0, 0);
            case "spoil": return ask(op, wild(0, 60), random.nextInt(), 0, 0, 0);
            case "byteAt": return ask(op, wild(0, 200), 0, 0, 0, 0);
            case "draw": return ask(op, wild(0, 4), 0, 0, 0, 0);
            case "shown": return ask(op, wild(0, 7), wild(0, 7), 0, 0, 0);
            case "paint": return ask(op, wild(0, 7), wild(0, 7), random.nextInt(), 0, 0);
            case "reduce": return ask(op, wild(1, 16), wild(0, 2), 0, 0, 0);
            default: return ask(op, 0, 0, 0, 0, 0);
        }
    }

    private boolean looks(int kind) {
        boolean same = true;
        for (int f = -1; kind == 0 && same && f < model.pics.size(); f++) {
            for (int what = 0; what <= 8; what++) {
                same &= ask(7, f, what, 0, 0, 0);
            }
            for (int k = 0; k < 16; k++) {
                same &= ask(8, f, k, 0, 0, 0);
            }
            for (int place = 0; f >= 0 && place < model.get(f, 2) * model.get(f, 3); place++) {
                same &= ask(9, f, place % model.get(f, 2), place / model.get(f, 2), 0, 0);
            }
        }
        for (int place = 0; kind == 1 && place < model.width * model.height; place++) {
            same &= ask(17, place % model.width, place / model.width, 0, 0, 0);
        }
        for (int k = 0; kind == 2 && k < 400; k++) {
            same &= ask(14, k, 0, 0, 0, 0);
        }
        return same;
    }

    /** Whether both answer the same; if not, the run is told. */
    private boolean ask(int op, int a, int b, int c, int d, int e) {
        if (!mayUse(1)) {
            return true;
        }
        String mine = answer(() -> ofOwn(op, a, b, c, d, e));
        String due = answer(() -> ofModel(op, a, b, c, d, e));
        told.append("\n  ").append(NAMES[op]).append('(').append(a).append(", ").append(b).append(", ")
            .append(c).append(", ").append(d).append(", ").append(e).append(") ").append(mine);
        if (op == 15) {
            reads += due.startsWith("throws") ? 0 : 1;
            refused += due.startsWith("throws") ? 1 : 0;
        }
        if (!mine.equals(due)) {
            System.out.println(told);
        }
        Check.due("the last call of the run told above", mine, due);
        return mine.equals(due);
    }

    private interface Answer {
        long give();
    }

    private static String answer(Answer call) {
        try {
            return Long.toString(call.give());
        } catch (RuntimeException e) {
            return "throws." + e.getClass().getSimpleName();
        }
    }

    private static long both(int low, int high) {
        return (long) high << 32 | low & 0xFFFFFFFFL;
    }

    private long ofOwn(int op, int a, int b, int c, int d, int e) {
        switch (op) {
            case 0: return own.palette(a, b);
            case 1: own.colour(a, b, c); return 0;
            case 2: return own.frame(a, b, c, d);
            case 3: own.pixel(a, b, c, d); return 0;
            case 4: own.set(a, b, c, d, e == 1); return 0;
            case 5: return own.cut();
            case 6: return own.frames();
            case 7: return own.get(a, b);
            case 8: return own.colourAt(a, b);
            case 9: return own.pixelAt(a, b, c);
            case 10: return own.write();
            case 11: return own.feed(both(a, b), c);
            case 12: return own.wipe();
            case 13: return own.spoil(a, b) ? 1 : 0;
            case 14: return own.byteAt(a);
            case 15: return own.read();
            case 16: return own.draw(a);
            case 17: return own.shown(a, b);
            case 18: own.paint(a, b, c); return 0;
            default: return own.reduce(a, b);
        }
    }

    private long ofModel(int op, int a, int b, int c, int d, int e) {
        switch (op) {
            case 0: return model.palette(a, b);
            case 1: model.colour(a, b, c); return 0;
            case 2: return model.frame(a, b, c, d);
            case 3: model.pixel(a, b, c, d); return 0;
            case 4: model.set(a, b, c, d, e == 1); return 0;
            case 5: return model.cut();
            case 6: return model.pics.size();
            case 7: return model.get(a, b);
            case 8: return model.colourAt(a, b);
            case 9: return model.pixelAt(a, b, c);
            case 10: return model.write();
            case 11: return model.feed(both(a, b), c);
            case 12: return model.wipe();
            case 13: return model.spoil(a, b) ? 1 : 0;
            case 14: return model.byteAt(a);
            case 15: return model.read();
            case 16: return model.draw(a);
            case 17: return model.shown(a, b);
            case 18: model.paint(a, b, c); return 0;
            default: return model.reduce(a, b);
        }
    }
}
