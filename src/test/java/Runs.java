import java.lang.reflect.Method;
import java.util.LinkedHashMap;
import java.util.Map;

/** What several tests need: numbers by a fixed rule, texts written letter by letter, calls by name. */
final class Runs {
    private static final Map<String, Method> OF_CLASS = methods(LacedPack.class);
    private static final Map<String, Method> OF_MODEL = methods(PlainPack.class);

    private long state;

    Runs(long seed) {
        state = seed * 0x9E3779B97F4A7C15L + 1;
    }

    /** A number from 0 to below the limit; the same ones in each run of the test. */
    int below(int limit) {
        state = state * 6364136223846793005L + 1442695040888963407L;
        return (int) ((state >>> 33) % limit);
    }

    static void write(LacedPack pack, String text) {
        for (char letter : text.toCharArray()) {
            pack.write(letter);
        }
    }

    static LacedPack laid(String text) {
        LacedPack pack = new LacedPack();
        write(pack, text);
        pack.lay();
        return pack;
    }

    static String order(LacedPack pack) {
        StringBuilder row = new StringBuilder();
        for (int place = 0; place < pack.count(0); place++) {
            row.append(place == 0 ? "" : " ").append(pack.at(place));
        }
        return row.toString();
    }

    static Map<String, Method> calls() {
        return OF_CLASS;
    }

    static int call(LacedPack pack, String name, int[] numbers) {
        return call(OF_CLASS.get(name), pack, numbers);
    }

    static int call(PlainPack pack, String name, int[] numbers) {
        return call(OF_MODEL.get(name), pack, numbers);
    }

    private static int call(Method method, Object pack, int[] numbers) {
        Object[] boxed = new Object[numbers.length];
        for (int i = 0; i < numbers.length; i++) {
            boxed[i] = numbers[i];
        }
        try {
            return (Integer) method.invoke(pack, boxed);
        } catch (ReflectiveOperationException fault) {
            throw new IllegalStateException(method.getName() + " threw", fault);
        }
    }

    private static Map<String, Method> methods(Class<?> of) {
        Map<String, Method> all = new LinkedHashMap<>();
        for (String name : FaceTest.FACE.keySet()) {
            for (Method method : of.getDeclaredMethods()) {
                if (method.getName().equals(name) && method.getParameterCount() == FaceTest.FACE.get(name)
                        && !java.lang.reflect.Modifier.isPrivate(method.getModifiers())
                        && !java.lang.reflect.Modifier.isStatic(method.getModifiers())) {
                    all.put(name, method);
                }
            }
        }
        return all;
    }
}
