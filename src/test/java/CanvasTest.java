/** Promises 18 and 19: drawing frames one over the other, and what is shown then. */
public final class CanvasTest {
    private CanvasTest() {
    }

    public static void main(String[] args) {
        oneFrame();
        clipped();
        clearNumbers();
        disposals();
        restoring();
        restoringAfterClearing();
        drawnLastStays();
        wrongly();
        Check.end();
    }

    /** A frame that is all one colour of its own palette. */
    private static int plain(PaletteReel reel, int left, int top, int size, int rgb) {
        int f = reel.frame(left, top, size, size);
        reel.palette(f, 1);
        reel.colour(f, 0, rgb);
        return f;
    }

    private static void oneFrame() {
        PaletteReel x = new PaletteReel(3, 2);
        x.colour(-1, 0, 10);
        x.colour(-1, 1, 11);
        x.frame(1, 0, 2, 2);
        x.pixel(0, 0, 1, 1);
        Check.due("none", x.draw(0), 0);
        Check.due("one", x.draw(1), 4);
        Check.due("the canvas", Check.canvas(x), "- a a/- b a");
        Check.due("none again", x.draw(0), 0);
        Check.due("all NONE before", Check.canvas(x), "- - -/- - -");
        x.palette(0, 1);
        x.colour(0, 1, 12);
        Check.due("its own colours", x.draw(1), 4);
        Check.due("the canvas", Check.canvas(x), "- 0 0/- c 0");
    }

    private static void clipped() {
        PaletteReel x = new PaletteReel(3, 2);
        plain(x, 2, 1, 8, 1);
        plain(x, 7, 7, 8, 2);
        plain(x, 0, 2, 1, 3);
        plain(x, 3, 0, 1, 4);
        Check.due("one place", x.draw(4), 1);
        Check.due("the canvas", Check.canvas(x), "- - -/- - 1");
        for (int f = 0; f < 4; f++) {
            x.set(f, 2, 0, -1, false);
        }
        Check.due("none is left", x.draw(4), 0);
    }

    private static void clearNumbers() {
        PaletteReel x = new PaletteReel(2, 2);
        plain(x, 0, 0, 2, 5);
        x.frame(0, 0, 2, 2);
        x.palette(1, 2);
        x.colour(1, 3, 6);
        x.pixel(1, 0, 0, 3);
        x.pixel(1, 1, 1, 1);
        x.set(1, 0, 0, 0, false);
        Check.due("over the other", x.draw(2), 4);
        Check.due("what is clear lets it through", Check.canvas(x), "6 5/5 0");
        x.set(0, 0, 0, 0, false);
        Check.due("all of it is clear", x.draw(1), 0);
        Check.due("two places", x.draw(2), 2);
        Check.due("the canvas", Check.canvas(x), "6 -/- 0");
    }

    private static void disposals() {
        String[] due = {"1 1 1/1 2 2/1 2 3", "1 1 1/1 2 2/1 2 3", "1 1 1/1 - -/1 - 3", "1 1 1/1 1 1/1 1 3"};
        for (int disposal = 0; disposal <= 3; disposal++) {
            PaletteReel x = new PaletteReel(3, 3);
            plain(x, 0, 0, 3, 1);
            plain(x, 1, 1, 4, 2);
            plain(x, 2, 2, 1, 3);
            x.set(1, disposal, 0, -1, true);
            Check.due("not yet done", x.draw(2), 9);
            Check.due("not yet done", Check.canvas(x), "1 1 1/1 2 2/1 2 2");
            Check.due("done", x.draw(3), disposal == 2 ? 6 : 9);
            Check.due("disposal " + disposal, Check.canvas(x), due[disposal]);
        }
    }

    private static void restoring() {
        PaletteReel x = new PaletteReel(2, 2);
        plain(x, 0, 0, 1, 1);
        plain(x, 1, 0, 1, 2);
        plain(x, 0, 1, 1, 3);
        plain(x, 1, 1, 1, 4);
        x.set(0, 3, 0, -1, false);
        x.set(1, 3, 0, -1, false);
        x.set(2, 3, 0, -1, false);
        Check.due("only the last", x.draw(4), 1);
        Check.due("the canvas", Check.canvas(x), "- -/- 4");
        x.set(1, 0, 0, -1, false);
        Check.due("and that which stays", x.draw(4), 2);
        Check.due("the canvas", Check.canvas(x), "- 2/- 4");
    }

    private static void restoringAfterClearing() {
        PaletteReel x = new PaletteReel(2, 1);
        plain(x, 0, 0, 1, 1);
        plain(x, 0, 0, 2, 2);
        plain(x, 1, 0, 1, 3);
        x.set(0, 2, 0, -1, false);
        x.set(1, 3, 0, -1, false);
        Check.due("what it was before that frame, not before the disposal", x.draw(3), 1);
        Check.due("the canvas", Check.canvas(x), "- 3");
    }

    private static void drawnLastStays() {
        PaletteReel x = new PaletteReel(2, 1);
        Check.due("at first", Check.canvas(x), "- -");
        plain(x, 0, 0, 1, 9);
        Check.due("not drawn yet", Check.canvas(x), "- -");
        x.draw(1);
        x.colour(0, 0, 8);
        x.pixel(0, 0, 0, 1);
        x.paint(1, 0, 7);
        x.reduce(1, 0);
        x.cut();
        x.wipe();
        x.write();
        Check.due("as it was drawn", Check.canvas(x), "9 -");
        Check.noArgument("there is no frame", () -> x.draw(1));
        Check.due("as it was drawn", Check.canvas(x), "9 -");
        x.spoil(0, 0);
        Check.noArgument("not well formed", () -> x.read());
        Check.due("as it was drawn", Check.canvas(x), "9 -");
        x.write();
        x.read();
        Check.due("NONE after read", Check.canvas(x), "- -");
    }

    private static void wrongly() {
        PaletteReel x = new PaletteReel(3, 2);
        x.frame(0, 0, 1, 1);
        x.frame(0, 0, 1, 1);
        Check.noArgument("no 3 frames", () -> x.draw(3));
        Check.noArgument("no -1 frames", () -> x.draw(-1));
        Check.fine("2 frames", () -> x.draw(2));
        Check.noIndex("no x 3", () -> x.shown(3, 0));
        Check.noIndex("no x -1", () -> x.shown(-1, 1));
        Check.noIndex("no y 2", () -> x.shown(0, 2));
        Check.noIndex("no y -1", () -> x.shown(0, -1));
        Check.due("the last place", x.shown(2, 1), -1);
    }
}
