import java.io.IOException;
import java.nio.file.DirectoryStream;
import java.nio.file.Files;
import java.nio.file.Path;
import java.util.List;
import java.util.stream.Collectors;

/** That what README.md shows is true: its example is the one below, and it tells every test. */
public final class ReadmeTest {
    private ReadmeTest() {
    }

    public static void main(String[] args) throws IOException {
        String readme = Files.readString(Path.of("README.md"));
        example();
        exampleIsThis(readme);
        testsAreTold(readme);
        callsAreTold(readme);
        Check.end();
    }

    private static void example() {
        // What stands from here on, word for word, is README's.
        PaletteReel reel = new PaletteReel(4, 4);   // width and height, 1 .. 8
        reel.palette(-1, 2);                        // the reel's palette has 4 colours
        reel.colour(-1, 1, 0xFF0000);
        int f = reel.frame(1, 1, 2, 2);             // a frame at 1, 1 of 2 * 2 pixels
        reel.pixel(f, 0, 0, 1);
        reel.set(f, 2, 10, 0, false);               // disposal, delay, clear number, woven
        int coloured = reel.draw(1);                // draws it: 1 place has a colour
        int colour = reel.shown(1, 1);              // 0xFF0000

        int length = reel.write();                  // the reel as bytes: byteAt(0 .. length - 1)
        PaletteReel other = new PaletteReel(1, 1);
        for (int k = 0; k < length; k++) {
            other.feed(reel.byteAt(k), 1);
        }
        int frames = other.read();                  // 1, and now both are the same

        reel.paint(0, 0, 0x123456);                 // the picture, which is not the canvas
        int boxes = reel.reduce(8, 2);              // a new frame of the 2 colours that it has
        // So far README's.
        Check.due("coloured", coloured, 1);
        Check.due("colour", colour, 0xFF0000);
        Check.due("frames", frames, 1);
        Check.due("boxes", boxes, 2);
        reel.read();
        Check.due("the other one", Check.reelState(other), Check.reelState(reel));
        reel.reduce(8, 2);
        Check.due("the new frame's colour at 0, 0", reel.colourAt(1, reel.pixelAt(1, 0, 0)), 0x123456);
    }

    private static String plain(String text) {
        return text.lines().map(String::trim).filter(line -> !line.isEmpty()).collect(Collectors.joining("\n"));
    }

    private static String between(String text, String start, String end) {
        int from = text.indexOf(start) + start.length();
        return text.substring(from, text.indexOf(end, from));
    }

    private static void exampleIsThis(String readme) throws IOException {
        String source = Files.readString(Path.of("src/test/java/ReadmeTest.java"));
        Check.due("README's example", plain(between(readme, "```java\n", "```")),
            plain(between(source, "word for word, is README's.\n", "// So far README's.")));
    }

    private static void testsAreTold(String readme) throws IOException {
        try (DirectoryStream<Path> files = Files.newDirectoryStream(Path.of("src/test/java"), "*Test.java")) {
            for (Path file : files) {
                String name = file.getFileName().toString().replace(".java", "");
                Check.due("README tells " + name, readme.contains("| " + name + " |"), true);
            }
        }
    }

    private static void callsAreTold(String readme) {
        List<String> names = List.of("palette", "colour", "frame", "pixel", "set", "cut", "frames", "get",
            "colourAt", "pixelAt", "write", "feed", "wipe", "spoil", "byteAt", "read", "draw", "shown", "paint",
            "reduce");
        for (String name : names) {
            Check.due("README tells " + name, readme.contains("| `" + name + "("), true);
        }
    }
}
