import java.lang.reflect.InvocationTargetException;
import java.lang.reflect.Method;
import java.util.List;

/** The public face at its edges: whatever the arguments are, a call throws only what it says it may. */
public final class EdgeFaceTest {
    private static final int[] INTS = {Integer.MIN_VALUE, -256, -2, -1, 0, 1, 2, 3, 4, 7, 8, 9, 15, 16, 17, 255,
        256, 800, Integer.MAX_VALUE};
    private static final int[] FEW_INTS = {Integer.MIN_VALUE, -2, -1, 0, 1, 3, 4, 8, 16, 256, Integer.MAX_VALUE};
    private static final long[] LONGS = {Long.MIN_VALUE, -1, 0, 255, 256, Long.MAX_VALUE};
    // Far from the 512 calls that an object is used for, with those that made it.
    private static final int CALLS_OF_ONE = 200;

    private final Method method;
    private final Scene.Maker scene;
    private PaletteReel reel;
    private int calls;

    private EdgeFaceTest(Method method, Scene.Maker scene) {
        this.method = method;
        this.scene = scene;
        reel = scene.make();
    }

    public static void main(String[] args) {
        Check.says("The public face", "public static final int NONE = -1;");
        Check.due("NONE", PaletteReel.NONE, -1);
        for (Method method : PaletteReel.class.getDeclaredMethods()) {
            if (java.lang.reflect.Modifier.isPublic(method.getModifiers())) {
                Check.says("The public face", method.getName());
                for (Scene.Maker scene : List.<Scene.Maker>of(Scene::bare, Scene::some, Scene::full)) {
                    Object[] given = new Object[method.getParameterCount()];
                    new EdgeFaceTest(method, scene).withAll(given, 0);
                }
            }
        }
        newObjects();
        Check.end();
    }

    /** Fills in the arguments from this one on in all ways, and calls with each. */
    private void withAll(Object[] given, int at) {
        if (at == given.length) {
            call(given);
            return;
        }
        Class<?> type = method.getParameterTypes()[at];
        if (type == boolean.class) {
            withNext(given, at, true);
            withNext(given, at, false);
        } else if (type == long.class) {
            for (long value : LONGS) {
                withNext(given, at, value);
            }
        } else {
            for (int value : given.length > 3 ? FEW_INTS : INTS) {
                withNext(given, at, value);
            }
        }
    }

    private void withNext(Object[] given, int at, Object value) {
        given[at] = value;
        withAll(given, at + 1);
    }

    private void call(Object[] given) {
        calls++;
        if (calls % CALLS_OF_ONE == 0) {
            reel = scene.make();
        }
        String thrown = "nothing";
        boolean declared = true;
        try {
            method.invoke(reel, given);
        } catch (InvocationTargetException e) {
            Class<?> type = e.getCause().getClass();
            thrown = type.getSimpleName();
            declared = List.<Class<?>>of(method.getExceptionTypes()).contains(type);
        } catch (IllegalAccessException e) {
            throw new IllegalStateException(e);
        }
        if (!declared) {
            Check.due(method.getName() + java.util.Arrays.toString(given), thrown, "what the face says");
        }
        Check.due(method.getName() + " throws only what it says", declared, true);
    }

    private static void newObjects() {
        Check.says("The public face", "public PaletteReel(int width, int height);");
        for (int width : INTS) {
            for (int height : INTS) {
                Check.fine("a new object", () -> new PaletteReel(width, height));
            }
        }
    }
}
