import java.io.IOException;
import java.lang.reflect.Constructor;
import java.lang.reflect.Field;
import java.lang.reflect.Method;
import java.lang.reflect.Modifier;
import java.nio.file.Files;
import java.nio.file.Path;
import java.util.Arrays;
import java.util.LinkedHashMap;
import java.util.List;
import java.util.Map;
import java.util.regex.Matcher;
import java.util.regex.Pattern;

/** The public face is the document's and no more, and the source keeps to what LANGUAGE.md leaves. */
public final class FaceTest {
    /** The face's methods, each with how many numbers it takes. */
    static final Map<String, Integer> FACE = face();

    private static final Path SOURCE = Path.of("src/main/java/LacedPack.java");

    private static Map<String, Integer> face() {
        Map<String, Integer> all = new LinkedHashMap<>();
        for (String name : List.of("wipe", "fault", "lay", "turn", "deal", "undo", "rising", "pairs", "forget",
                "keep", "back")) {
            all.put(name, 0);
        }
        for (String name : List.of("write", "at", "where", "colour", "lace", "cut", "again", "rounds", "orders",
                "done", "count")) {
            all.put(name, 1);
        }
        for (String name : List.of("round", "beside", "sure", "seen")) {
            all.put(name, 2);
        }
        all.put("bring", 3);
        all.put("dealing", 3);
        all.put("likely", 5);
        return all;
    }

    public static void main(String[] args) throws IOException {
        Check check = new Check();
        methodsAndConstructor(check);
        fields(check);
        nestedClasses(check);
        source(check, Files.readString(SOURCE));
        check.end();
    }

    private static void methodsAndConstructor(Check check) {
        int open = 0;
        for (Method method : LacedPack.class.getDeclaredMethods()) {
            if (Modifier.isPrivate(method.getModifiers())) {
                check.holds(method + " bears no name of the face", !FACE.containsKey(method.getName()));
                continue;
            }
            open++;
            Integer numbers = FACE.get(method.getName());
            check.holds(method + " is of the face", numbers != null && numbers == method.getParameterCount()
                    && Modifier.isPublic(method.getModifiers()) && !Modifier.isStatic(method.getModifiers())
                    && method.getReturnType() == int.class
                    && Arrays.stream(method.getParameterTypes()).allMatch(type -> type == int.class));
        }
        check.same("the number of methods", open, FACE.size());
        Constructor<?>[] constructors = LacedPack.class.getDeclaredConstructors();
        check.same("the number of constructors", constructors.length, 1);
        check.same("what the constructor takes", constructors[0].getParameterCount(), 0);
        check.holds("a public constructor", Modifier.isPublic(constructors[0].getModifiers()));
        check.holds("a final class", Modifier.isFinal(LacedPack.class.getModifiers()));
    }

    private static void fields(Check check) {
        int open = 0;
        for (Field field : LacedPack.class.getDeclaredFields()) {
            if (!Modifier.isPrivate(field.getModifiers())) {
                open++;
                check.holds(field + " is a constant", Modifier.isPublic(field.getModifiers())
                        && Modifier.isStatic(field.getModifiers()) && Modifier.isFinal(field.getModifiers()));
            }
        }
        check.same("the number of constants", open, 4);
        check.same("BAD", LacedPack.BAD, -1);
        check.same("NO", LacedPack.NO, -2);
        check.same("FULL", LacedPack.FULL, -3);
        check.same("NONE", LacedPack.NONE, -4);
    }

    private static void nestedClasses(Check check) {
        Class<?>[] nested = LacedPack.class.getDeclaredClasses();
        check.holds("at most eleven classes inside", nested.length <= 11);
        for (Class<?> inside : nested) {
            check.holds(inside + " is static and not public", Modifier.isStatic(inside.getModifiers())
                    && !Modifier.isPublic(inside.getModifiers()) && !Modifier.isProtected(inside.getModifiers()));
            for (Method method : inside.getDeclaredMethods()) {
                check.holds(method + " bears no name of the face", !FACE.containsKey(method.getName()));
            }
            for (Field field : inside.getDeclaredFields()) {
                check.holds(field + " is final if static",
                        !Modifier.isStatic(field.getModifiers()) || Modifier.isFinal(field.getModifiers()));
            }
        }
    }

    private static void source(Check check, String source) {
        String code = source.replaceAll("(?s)/\\*.*?\\*/", " ").replaceAll("//[^\n]*", " ");
        Matcher word = Pattern.compile("\\b(throw|throws|try|catch|synchronized|assert|import|package|enum|native"
                + "|System\\.(?!arraycopy\\b)\\w+|Math\\.\\w*Exact|->|::)").matcher(code);
        check.holds("no word that LANGUAGE.md rules out", !word.find());
        check.holds("no arrow and no reference to a method", !code.contains("->") && !code.contains("::"));
        check.holds("ASCII alone", source.chars().allMatch(sign -> sign < 128));
        Matcher head = Pattern.compile("\\(([^()]*)\\)\\s*\\{").matcher(code);
        while (head.find()) {
            check.holds("at most seven parameters: " + head.group(1), head.group(1).split(",").length <= 7);
        }
        constructorsAlone(check, code);
    }

    /** Calls make no object: each 'new' stands in a field or in a constructor. */
    private static void constructorsAlone(Check check, String code) {
        for (String line : code.split("\n")) {
            if (line.matches(".*\\bnew\\b.*")) {
                check.holds("made once: " + line.trim(), line.matches("\\s*(private final )?[\\w\\[\\] ]+ = new .*;"));
            }
        }
    }
}
