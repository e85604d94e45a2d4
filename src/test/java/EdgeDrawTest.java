/** The edges that the document names of the canvas: Terms, and promises 18 and 19. */
public final class EdgeDrawTest {
    private static final int LOWEST = Integer.MIN_VALUE;
    private static final int HIGHEST = Integer.MAX_VALUE;

    private EdgeDrawTest() {
    }

    public static void main(String[] args) {
        asLargeAsTheReel();
        colourOrNone();
        firstAllNone();
        pixelsBeyondTheCanvas();
        clearNumbers();
        disposalOfTheLastOne();
        disposalThatDoesNothing();
        wholeRectangle();
        whatItWasBefore();
        drawsTheFirst();
        howManyPlaces();
        drawTooManyOrTooFew();
        asItWasDrawnLast();
        noneAtFirstAndAfterRead();
        noSuchPlace();
        Check.end();
    }

    /** A frame that is all one colour of its own. */
    private static void plain(PaletteReel x, int left, int top, int width, int height, int rgb) {
        int f = x.frame(left, top, width, height);
        x.palette(f, 1);
        x.colour(f, 0, rgb);
    }

    private static void disposal(PaletteReel x, int f, int disposal) {
        x.set(f, disposal, 0, -1, false);
    }

    // Terms

    private static void asLargeAsTheReel() {
        Check.says("Terms", "THE CANVAS is as large as the reel");
        int[][] sizes = {{1, 1}, {8, 1}, {1, 8}, {8, 8}, {3, 5}};
        for (int[] size : sizes) {
            PaletteReel x = new PaletteReel(size[0], size[1]);
            plain(x, 0, 0, 8, 8, 6);
            Check.due("all of it", x.draw(1), size[0] * size[1]);
            Check.due("the last place", x.shown(size[0] - 1, size[1] - 1), 6);
            Check.noIndex("none right of it", () -> x.shown(size[0], 0));
            Check.noIndex("none below it", () -> x.shown(0, size[1]));
        }
        PaletteReel y = Scene.some();
        Check.give(y, Check.join(Parts.head(8, 7, 1), Parts.LAST));
        y.read();
        plain(y, 0, 0, 8, 8, 6);
        Check.due("as large as the one that was read", y.draw(1), 56);
    }

    private static void colourOrNone() {
        Check.says("Terms", "each place has a colour, or NONE");
        PaletteReel x = new PaletteReel(2, 1);
        plain(x, 0, 0, 1, 1, 0);
        Check.due("black is a colour", x.draw(1), 1);
        Check.due("it is shown", x.shown(0, 0), 0);
        Check.due("no colour", x.shown(1, 0), PaletteReel.NONE);
        x.colour(0, 0, 0xFFFFFF);
        Check.due("white is a colour", x.draw(1), 1);
        Check.due("it is shown", x.shown(0, 0), 0xFFFFFF);
    }

    private static void firstAllNone() {
        Check.says("Terms", "It is first all NONE; frame after frame is drawn");
        PaletteReel x = new PaletteReel(2, 2);
        plain(x, 0, 0, 2, 2, 1);
        plain(x, 0, 0, 2, 1, 2);
        plain(x, 0, 0, 1, 2, 3);
        plain(x, 0, 0, 1, 1, 4);
        String[] due = {"- -/- -", "1 1/1 1", "2 2/1 1", "3 2/3 1", "4 2/3 1"};
        int[] turns = {4, 0, 3, 1, 4, 2, 0};
        for (int n : turns) {
            x.draw(n);
            Check.due("the first " + n, Check.canvas(x), due[n]);
        }
    }

    private static void pixelsBeyondTheCanvas() {
        Check.says("Terms", "the pixels that ... lie on it give it their colours");
        int[] reels = {1, 2, 5, 7, 8};
        for (int side : reels) {
            for (int at = 0; at <= 7; at++) {
                for (int size = 1; size <= 8; size++) {
                    across(side, at, size);
                    down(side, at, size);
                }
            }
        }
        PaletteReel x = new PaletteReel(3, 2);
        plain(x, 2, 1, 8, 8, 1);
        plain(x, 3, 0, 1, 1, 2);
        plain(x, 0, 2, 1, 1, 3);
        plain(x, 7, 7, 8, 8, 4);
        Check.due("one pixel of four frames lies on it", x.draw(4), 1);
        Check.due("it", Check.canvas(x), "- - -/- - 1");
    }

    /** Each pixel of a row has a number of its own, to see that none comes to a wrong place. */
    private static void across(int side, int at, int size) {
        PaletteReel x = new PaletteReel(side, 3);
        x.palette(-1, 4);
        x.frame(at, 1, size, 1);
        for (int i = 0; i < size; i++) {
            x.pixel(0, i, 0, 15 - i);
        }
        for (int k = 0; k < 16; k++) {
            x.colour(-1, k, 100 + k);
        }
        Check.due("places of " + size + " at " + at + " on " + side, x.draw(1),
            Math.max(0, Math.min(side, at + size) - at));
        for (int i = 0; i < side; i++) {
            Check.due("place " + i, x.shown(i, 1), i >= at && i < at + size ? 115 - (i - at) : -1);
            Check.due("above it", x.shown(i, 0), -1);
            Check.due("below it", x.shown(i, 2), -1);
        }
    }

    private static void down(int side, int at, int size) {
        PaletteReel x = new PaletteReel(3, side);
        x.palette(-1, 4);
        x.frame(1, at, 1, size);
        for (int i = 0; i < size; i++) {
            x.pixel(0, 0, i, 15 - i);
        }
        for (int k = 0; k < 16; k++) {
            x.colour(-1, k, 100 + k);
        }
        Check.due("places of " + size + " at " + at + " on " + side, x.draw(1),
            Math.max(0, Math.min(side, at + size) - at));
        for (int i = 0; i < side; i++) {
            Check.due("place " + i, x.shown(1, i), i >= at && i < at + size ? 115 - (i - at) : -1);
            Check.due("left of it", x.shown(0, i), -1);
            Check.due("right of it", x.shown(2, i), -1);
        }
    }

    private static void clearNumbers() {
        Check.says("Terms", "the pixels that are no clear number ... give it their colours");
        for (int clear = -1; clear < 4; clear++) {
            PaletteReel x = new PaletteReel(4, 1);
            plain(x, 0, 0, 4, 1, 9);
            x.frame(0, 0, 4, 1);
            x.palette(1, 2);
            for (int k = 0; k < 4; k++) {
                x.colour(1, k, 20 + k);
                x.pixel(1, k, 0, k);
            }
            x.set(1, 0, 0, clear, false);
            Check.due("over another", x.draw(2), 4);
            for (int k = 0; k < 4; k++) {
                Check.due("clear " + clear + ", place " + k, x.shown(k, 0), k == clear ? 9 : 20 + k);
            }
            x.set(0, 2, 0, -1, false);
            Check.due("over nothing", x.draw(2), clear < 0 ? 4 : 3);
        }
        PaletteReel y = new PaletteReel(2, 2);
        plain(y, 0, 0, 2, 2, 5);
        y.set(0, 0, 0, 0, false);
        Check.due("all of it is clear", y.draw(1), 0);
        y.set(0, 0, 0, 1, false);
        Check.due("none of it is clear", y.draw(1), 4);
    }

    private static void disposalOfTheLastOne() {
        Check.says("Terms", "Before the next one is drawn, the disposal of the last one is done");
        for (int disposal = 0; disposal <= 3; disposal++) {
            PaletteReel x = new PaletteReel(2, 1);
            plain(x, 0, 0, 1, 1, 1);
            plain(x, 1, 0, 1, 1, 2);
            disposal(x, 0, disposal);
            disposal(x, 1, disposal);
            Check.due("no next one", x.draw(1), 1);
            Check.due("it is there", Check.canvas(x), "1 -");
            Check.due("a next one", x.draw(2), disposal < 2 ? 2 : 1);
            Check.due("of disposal " + disposal, Check.canvas(x), disposal < 2 ? "1 2" : "- 2");
        }
    }

    private static void disposalThatDoesNothing() {
        Check.says("Terms", "0 and 1: nothing");
        for (int disposal = 0; disposal <= 1; disposal++) {
            PaletteReel x = new PaletteReel(3, 1);
            plain(x, 0, 0, 3, 1, 1);
            plain(x, 0, 0, 2, 1, 2);
            plain(x, 0, 0, 1, 1, 3);
            disposal(x, 0, disposal);
            disposal(x, 1, disposal);
            Check.due("all stays", x.draw(3), 3);
            Check.due("one over the other", Check.canvas(x), "3 2 1");
        }
    }

    private static void wholeRectangle() {
        Check.says("Terms", "2: what lies under its whole rectangle becomes NONE");
        for (int left = 0; left <= 7; left++) {
            for (int width = 1; width <= 8; width++) {
                PaletteReel x = new PaletteReel(6, 3);
                plain(x, 0, 0, 8, 8, 1);
                x.frame(left, 1, width, 1);
                x.set(1, 2, 0, 0, false);
                x.frame(7, 7, 1, 1);
                int under = Math.max(0, Math.min(6, left + width) - left);
                Check.due("clear pixels show what lies under them", x.draw(2), 18);
                Check.due("then it is gone", x.draw(3), 18 - under);
                for (int i = 0; i < 6; i++) {
                    Check.due("place " + i, x.shown(i, 1), i >= left && i < left + width ? -1 : 1);
                }
            }
        }
        for (int top = 0; top <= 7; top++) {
            PaletteReel x = new PaletteReel(2, 6);
            plain(x, 0, 0, 8, 8, 1);
            plain(x, 1, top, 1, 2, 2);
            disposal(x, 1, 2);
            x.frame(7, 7, 1, 1);
            Check.due("below " + top, x.draw(3), 12 - Math.max(0, Math.min(2, 6 - top)));
        }
    }

    private static void whatItWasBefore() {
        Check.says("Terms", "3: the canvas becomes what it was before that frame was drawn");
        PaletteReel x = new PaletteReel(3, 1);
        plain(x, 0, 0, 3, 1, 1);
        plain(x, 1, 0, 8, 8, 2);
        plain(x, 2, 0, 1, 1, 3);
        plain(x, 7, 7, 1, 1, 4);
        disposal(x, 0, 3);
        x.draw(2);
        Check.due("before the first frame all was NONE", Check.canvas(x), "- 2 2");
        disposal(x, 0, 0);
        disposal(x, 1, 3);
        x.draw(3);
        Check.due("before the second frame the first was there", Check.canvas(x), "1 1 3");
        disposal(x, 2, 3);
        x.draw(4);
        Check.due("twice, one behind the other", Check.canvas(x), "1 1 1");
        disposal(x, 1, 0);
        x.draw(4);
        Check.due("only the third", Check.canvas(x), "1 2 2");
        disposal(x, 0, 2);
        disposal(x, 1, 3);
        x.draw(3);
        Check.due("the disposal of the first had been done", Check.canvas(x), "- - 3");
        disposal(x, 1, 2);
        disposal(x, 2, 3);
        x.draw(4);
        Check.due("the disposals of both", Check.canvas(x), "- - -");
    }

    // Promise 18

    private static void drawsTheFirst() {
        Check.says("Promise 18", "Draws the first n frames on the canvas, all NONE before");
        PaletteReel x = new PaletteReel(4, 1);
        Check.due("0 of none", x.draw(0), 0);
        for (int f = 0; f < 4; f++) {
            plain(x, f, 0, 1, 1, 10 + f);
            for (int n = 0; n <= f + 1; n++) {
                Check.due(n + " of " + (f + 1), x.draw(n), n);
                for (int i = 0; i < 4; i++) {
                    Check.due("place " + i, x.shown(i, 0), i < n ? 10 + i : -1);
                }
            }
        }
        PaletteReel y = Scene.some();
        y.draw(1);
        Check.due("the reel stays", Check.reelState(y), Check.reelState(Scene.some()));
        Check.due("the bytes stay", Check.bytes(y), Check.bytes(Scene.some()));
        Check.due("the picture stays", Scene.picture(y), Scene.picture(Scene.some()));
    }

    private static void howManyPlaces() {
        Check.says("Promise 18", "on how many places there is a colour");
        PaletteReel x = new PaletteReel(8, 8);
        plain(x, 0, 0, 8, 8, 1);
        plain(x, 0, 0, 8, 8, 2);
        plain(x, 0, 0, 1, 1, 3);
        Check.due("none", x.draw(0), 0);
        Check.due("all", x.draw(1), 64);
        Check.due("all, twice over", x.draw(2), 64);
        disposal(x, 1, 2);
        Check.due("one", x.draw(3), 1);
        disposal(x, 1, 3);
        Check.due("all again", x.draw(3), 64);
    }

    private static void drawTooManyOrTooFew() {
        Check.says("Promise 18", "IllegalArgumentException when n is not 0 .. the number of frames.");
        int[] wrong = {LOWEST, -2, -1, 5, 6, HIGHEST};
        for (int n : wrong) {
            Scene.refuses("draw(" + n + ")", Scene::bare, Scene.ARGUMENT, x -> x.draw(n));
            Scene.refuses("draw(" + n + ")", Scene::some, Scene.ARGUMENT, x -> x.draw(n));
            Scene.refuses("draw(" + n + ")", Scene::full, Scene.ARGUMENT, x -> x.draw(n));
        }
        Scene.refuses("1 of none", Scene::bare, Scene.ARGUMENT, x -> x.draw(1));
        Scene.refuses("3 of two", Scene::some, Scene.ARGUMENT, x -> x.draw(3));
        Check.due("0 of none", Scene.bare().draw(0), 0);
        Check.fine("2 of two", () -> Scene.some().draw(2));
        Check.fine("4 of four", () -> Scene.full().draw(4));
    }

    // Promise 19

    private static void asItWasDrawnLast() {
        Check.says("Promise 19", "What there is at a place of the canvas, as it was drawn last");
        PaletteReel x = new PaletteReel(2, 1);
        plain(x, 0, 0, 1, 1, 9);
        x.draw(1);
        x.colour(0, 0, 8);
        Check.due("a colour that is changed then", Check.canvas(x), "9 -");
        x.pixel(0, 0, 0, 1);
        x.set(0, 2, 0, 1, false);
        Check.due("a frame that is changed then", Check.canvas(x), "9 -");
        x.frame(0, 0, 2, 1);
        x.paint(1, 0, 7);
        x.reduce(2, 0);
        Check.due("frames that come then", Check.canvas(x), "9 -");
        x.write();
        x.cut();
        x.wipe();
        Check.due("frames and bytes that are gone then", Check.canvas(x), "9 -");
        Check.noArgument("a draw that is refused", () -> x.draw(1));
        Check.due("nothing by it", Check.canvas(x), "9 -");
        Check.noArgument("a read that is refused", () -> x.read());
        Check.due("nothing by it", Check.canvas(x), "9 -");
        x.draw(0);
        Check.due("drawn again", Check.canvas(x), "- -");
    }

    private static void noneAtFirstAndAfterRead() {
        Check.says("Promise 19", "(all NONE at first and after read): a colour or NONE");
        int[][] sizes = {{3, 2}, {2, 2}, {8, 8}, {1, 1}};
        for (int[] size : sizes) {
            PaletteReel x = new PaletteReel(size[0], size[1]);
            String none = Check.canvas(x);
            Check.due("at first", none.replaceAll("[- /]", ""), "");
            Check.due("its size", none.replaceAll("[ /]", "").length(), size[0] * size[1]);
            PaletteReel y = new PaletteReel(3, 2);
            plain(y, 0, 0, 8, 8, 4);
            y.draw(1);
            Check.due("drawn", Check.canvas(y), "4 4 4/4 4 4");
            Check.give(y, Check.join(Parts.head(size[0], size[1], 1), Parts.dot(), Parts.LAST));
            y.read();
            Check.due("after read", Check.canvas(y), none);
        }
    }

    private static void noSuchPlace() {
        Check.says("Promise 19", "IndexOutOfBoundsException when there is no such place.");
        int[][] places = {{-1, 0}, {3, 0}, {0, -1}, {0, 2}, {-1, 1}, {3, 1}, {2, 2}, {2, -1}, {LOWEST, 0},
            {HIGHEST, 0}, {0, LOWEST}, {0, HIGHEST}, {8, 0}, {11, -1}, {-8, 1}, {7, 1}};
        for (int[] p : places) {
            Scene.refuses("shown(" + p[0] + ", " + p[1] + ")", Scene::some, Scene.INDEX, x -> x.shown(p[0], p[1]));
            Scene.refuses("shown(" + p[0] + ", " + p[1] + ")", Scene::bare, Scene.INDEX, x -> x.shown(p[0], p[1]));
        }
        Scene.keeps("the last place", Scene::bare, -1, x -> x.shown(2, 1));
        Scene.keeps("a place that is drawn", Scene::some, 0xA0B0C4, x -> x.shown(0, 0));
    }
}
