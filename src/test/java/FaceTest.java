import java.io.IOException;
import java.lang.reflect.Constructor;
import java.lang.reflect.Field;
import java.lang.reflect.Method;
import java.lang.reflect.Modifier;
import java.nio.file.Files;
import java.nio.file.Path;
import java.util.Arrays;
import java.util.List;
import java.util.Set;
import java.util.TreeSet;
import java.util.regex.Matcher;
import java.util.regex.Pattern;

/** The public face as the document has it, and the rules of LANGUAGE.md that a test can see. */
public final class FaceTest {
    private static final String FACE = """
        public NONE int
        public PaletteReel int int
        public int palette int int throws IndexOutOfBoundsException IllegalArgumentException
        public void colour int int int throws IndexOutOfBoundsException
        public int frame int int int int throws IllegalArgumentException IllegalStateException
        public void pixel int int int int throws IndexOutOfBoundsException IllegalArgumentException
        public void set int int int int boolean throws IndexOutOfBoundsException IllegalArgumentException
        public int cut
        public int frames
        public int get int int throws IndexOutOfBoundsException
        public int colourAt int int throws IndexOutOfBoundsException
        public int pixelAt int int int throws IndexOutOfBoundsException
        public int write
        public int feed long int
        public int wipe
        public boolean spoil int int
        public int byteAt int
        public int read throws IllegalArgumentException
        public int draw int throws IllegalArgumentException
        public int shown int int throws IndexOutOfBoundsException
        public void paint int int int throws IndexOutOfBoundsException
        public int reduce int int throws IllegalArgumentException IllegalStateException
        """;

    private FaceTest() {
    }

    public static void main(String[] args) throws IOException {
        face();
        namesOfMethods();
        source(Files.readString(Path.of("src/main/java/PaletteReel.java")));
        Check.end();
    }

    private static String names(Class<?>[] types) {
        StringBuilder text = new StringBuilder();
        for (Class<?> type : types) {
            text.append(' ').append(type.getSimpleName());
        }
        return text.toString();
    }

    private static String thrown(Class<?>[] types) {
        return types.length == 0 ? "" : " throws" + names(types);
    }

    private static void face() {
        Class<?> type = PaletteReel.class;
        Check.due("the class", Modifier.toString(type.getModifiers()), "public final");
        Set<String> got = new TreeSet<>();
        for (Field field : type.getDeclaredFields()) {
            if (!Modifier.isPrivate(field.getModifiers())) {
                got.add("public " + field.getName() + " " + field.getType());
                Check.due("a constant", Modifier.toString(field.getModifiers()), "public static final");
            }
            boolean shared = Modifier.isStatic(field.getModifiers());
            Check.due(field.getName() + " is final when it is static",
                !shared || Modifier.isFinal(field.getModifiers()), true);
        }
        for (Constructor<?> made : type.getDeclaredConstructors()) {
            got.add("public PaletteReel" + names(made.getParameterTypes()));
        }
        for (Method method : type.getDeclaredMethods()) {
            if (!Modifier.isPrivate(method.getModifiers())) {
                got.add("public " + method.getReturnType() + " " + method.getName()
                    + names(method.getParameterTypes()) + thrown(method.getExceptionTypes()));
                Check.due(method.getName(), Modifier.toString(method.getModifiers()), "public");
            }
        }
        Check.due("the face", String.join("\n", got), String.join("\n", new TreeSet<>(FACE.lines().toList())));
    }

    private static void namesOfMethods() {
        Set<String> open = new TreeSet<>();
        for (Method method : PaletteReel.class.getMethods()) {
            open.add(method.getName());
        }
        Class<?>[] inside = PaletteReel.class.getDeclaredClasses();
        Check.due("at most twelve classes", inside.length + 1 <= 12, true);
        for (Class<?> type : inside) {
            Check.due(type + " is static", Modifier.isStatic(type.getModifiers()), true);
            Check.due(type + " is not open", Modifier.isPublic(type.getModifiers()), false);
            Check.due(type + " has few fields", type.getDeclaredFields().length <= 20, true);
            for (Method method : type.getDeclaredMethods()) {
                Check.due(type + " " + method.getName() + " bears a public name",
                    open.contains(method.getName()), false);
                Check.due(method.getName() + " takes few", method.getParameterCount() <= 7, true);
            }
        }
        for (Method method : PaletteReel.class.getDeclaredMethods()) {
            boolean both = Modifier.isPrivate(method.getModifiers()) && open.contains(method.getName());
            Check.due(method.getName() + " bears a public name", both, false);
        }
    }

    private static void source(String text) {
        List<String> out = List.of("package ", "->", "::", "synchronized", "assert ", "finally", "try {",
            "catch", "System.out", "Random", "Thread", "java.io", "Exact(", "double", "float", "var ",
            "instanceof", "getMessage", "static {", "hashCode", "toString", "protected");
        for (String word : out) {
            Check.due("the source has " + word, text.contains(word), false);
        }
        Check.due("imports", text.lines().filter(line -> line.startsWith("import ")).toList().toString(),
            "[import java.util.Arrays;]");
        calls(text, "Arrays", "fill");
        calls(text, "System", "arraycopy");
        calls(text, "Math", "max", "min");
        Matcher thrown = Pattern.compile("throw .*").matcher(text);
        while (thrown.find()) {
            Check.due(thrown.group(), thrown.group().matches("throw new (IllegalState|IllegalArgument|"
                + "IndexOutOfBounds)Exception\\(\"[a-z ,]*\"\\);"), true);
        }
        lengths(text);
    }

    private static void calls(String text, String of, String... allowed) {
        Matcher call = Pattern.compile("\\b" + of + "\\.(\\w+)").matcher(text);
        while (call.find()) {
            Check.due(call.group(), Arrays.asList(allowed).contains(call.group(1)), true);
        }
    }

    private static void lengths(String text) {
        int opened = -1;
        List<String> lines = text.lines().toList();
        for (int i = 0; i < lines.size(); i++) {
            String line = lines.get(i);
            boolean inFace = line.matches(" {4}(public|private)[^=;]*\\(.*");
            boolean inside = line.matches(" {8}[A-Za-z][^=;.]*\\([^.;]*\\{");
            if (inFace || inside) {
                opened = i;
            }
            if (opened >= 0 && (line.equals("    }") || line.equals("        }"))) {
                Check.due("lines of " + lines.get(opened).trim(), i - opened <= 60, true);
                opened = -1;
            }
        }
    }
}
