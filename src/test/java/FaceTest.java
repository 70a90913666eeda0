import java.io.IOException;
import java.lang.reflect.Constructor;
import java.lang.reflect.Field;
import java.lang.reflect.Method;
import java.lang.reflect.Modifier;
import java.nio.file.Files;
import java.nio.file.Path;
import java.util.Arrays;
import java.util.Set;
import java.util.TreeSet;
import java.util.regex.Pattern;

/** The face of the class, and what can be seen of LANGUAGE.md without reading the program. */
public final class FaceTest {
    private static final String SOURCE = "src/main/java/LetterExchange.java";

    private static final String[] FACE = {
        "away(1)", "byTurns(2)", "drift(1)", "exchange(1)", "fault(0)", "feed(1)", "goBack(1)", "keep(1)",
        "letter(2)", "letters(0)", "next(2)", "row(3)", "seed(1)", "stand(2)", "standRow(3)", "start(0)",
        "table(2)", "tear(0)", "told(1)", "undo(1)", "write(2)"
    };

    private static final String[] NOT_ALLOWED = {
        "throw", "throws", "try", "catch", "synchronized", "assert", "Exact\\(", "->", "::", "import",
        "System\\.(?!arraycopy)", "Thread", "Random", "hashCode", "toString", "package", "static \\{", "\\[\\]\\["
    };

    public static void main(String[] args) throws IOException {
        Check check = new Check("FaceTest");
        face(check);
        source(check);
        room(check);
        check.end();
    }

    private static void face(Check check) {
        Class<LetterExchange> face = LetterExchange.class;
        check.holds("the class is public and final",
                Modifier.isPublic(face.getModifiers()) && Modifier.isFinal(face.getModifiers()));
        Set<String> methods = new TreeSet<>();
        Set<String> names = new TreeSet<>();
        for (Method method : face.getDeclaredMethods()) {
            if (Modifier.isPublic(method.getModifiers())) {
                methods.add(method.getName() + "(" + method.getParameterCount() + ")");
                names.add(method.getName());
                check.holds(method + " answers an int", method.getReturnType() == int.class);
            }
        }
        check.holds("the public methods: " + methods, methods.equals(new TreeSet<>(Arrays.asList(FACE))));
        for (Method method : face.getDeclaredMethods()) {
            if (!Modifier.isPublic(method.getModifiers()) && !method.isSynthetic()) {
                check.holds(method + " is private", Modifier.isPrivate(method.getModifiers()));
                check.holds(method + " has a name of its own", !names.contains(method.getName()));
            }
        }
        for (Constructor<?> constructor : face.getDeclaredConstructors()) {
            check.holds("one constructor", Modifier.isPublic(constructor.getModifiers())
                    && constructor.getParameterCount() == 0);
        }
        Set<String> constants = new TreeSet<>();
        for (Field field : face.getDeclaredFields()) {
            if (Modifier.isPublic(field.getModifiers())) constants.add(field.getName());
            else check.holds(field + " is private", Modifier.isPrivate(field.getModifiers()));
            if (Modifier.isStatic(field.getModifiers())) {
                check.holds(field + " is final", Modifier.isFinal(field.getModifiers()));
            }
        }
        check.holds("the constants: " + constants,
                constants.equals(new TreeSet<>(Arrays.asList("FULL", "NONE", "NOT", "OUTSIDE", "UNKNOWN"))));
        Class<?>[] inside = face.getDeclaredClasses();
        check.holds("some twelve classes", inside.length <= 12);
        for (Class<?> one : inside) {
            check.holds(one + " is static", Modifier.isStatic(one.getModifiers()));
            for (Method method : one.getDeclaredMethods()) {
                check.holds(method + " has a name of its own", !names.contains(method.getName()));
            }
        }
    }

    private static void source(Check check) throws IOException {
        String source = Files.readString(Path.of(SOURCE));
        String code = source.replaceAll("(?s)/\\*.*?\\*/", "").replaceAll("//[^\n]*", "");
        for (String word : NOT_ALLOWED) {
            String whole = Character.isLetter(word.charAt(0)) && !word.endsWith(")") && !word.startsWith("Exact")
                    ? "\\b" + word : word;
            check.holds("the program is without " + word, !Pattern.compile(whole + (word.matches("\\w+") ? "\\b" : ""))
                    .matcher(code).find());
        }
        check.holds("signs 1 to 127 alone", source.chars().allMatch(sign -> sign < 128));
        check.holds("every object is made where an object is made: no 'new' behind a return type",
                newStandsInFieldsAndConstructors(code));
    }

    /** Methods make nothing, so that no run fills its room: each 'new' is in a field or in History's constructor. */
    private static boolean newStandsInFieldsAndConstructors(String code) {
        for (String line : code.split("\n")) {
            if (line.contains(" new ") || line.contains("{new ")) {
                boolean field = line.matches(" +(private )?(final )?[\\w\\[\\]]+ \\w+ = .*;");
                boolean historyState = line.trim().equals("states[i] = new State();");
                if (!field && !historyState) return false;
            }
        }
        return true;
    }

    /** What a new object takes, found by walking its fields: 512 of them must fit into the room. */
    private static void room(Check check) {
        long[] count = {0, 0};
        count(new LetterExchange(), count);
        System.out.println("FaceTest: a new object is " + count[0] + " objects and arrays, "
                + count[1] + " fields and elements");
        check.holds("512 new objects are some 600,000 objects at most", count[0] * 512 < 600000);
        check.holds("512 new objects have 7.3 million fields and elements at most", count[1] * 512 < 7300000);
    }

    private static void count(Object thing, long[] count) {
        if (thing == null) return;
        count[0]++;
        if (thing.getClass().isArray()) {
            int length = java.lang.reflect.Array.getLength(thing);
            count[1] += length;
            if (!thing.getClass().getComponentType().isPrimitive()) {
                for (int i = 0; i < length; i++) count(java.lang.reflect.Array.get(thing, i), count);
            }
            return;
        }
        for (Field field : thing.getClass().getDeclaredFields()) {
            if (Modifier.isStatic(field.getModifiers())) continue;
            count[1]++;
            if (field.getType().isPrimitive()) continue;
            try {
                field.setAccessible(true);
                count(field.get(thing), count);
            } catch (IllegalAccessException e) {
                throw new IllegalStateException(e);
            }
        }
    }
}
