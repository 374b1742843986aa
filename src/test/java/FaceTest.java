import java.io.IOException;
import java.lang.reflect.Constructor;
import java.lang.reflect.Field;
import java.lang.reflect.Method;
import java.lang.reflect.Modifier;
import java.nio.file.Files;
import java.nio.file.Path;
import java.util.Arrays;
import java.util.HashSet;
import java.util.List;
import java.util.Set;
import java.util.TreeSet;
import java.util.regex.Pattern;

/** The public face of the document, and the rules of LANGUAGE.md that a plain look can see broken. */
public final class FaceTest {
    private static final Path SOURCE = Path.of("src/main/java/CrackedColumn.java");
    private static final Set<String> FACE = Set.of(
        "FREE", "ADDED", "SETTLED", "REMOVED",
        "OK", "NONE", "BAD_VALUE", "FULL", "PENDING_FULL", "NO_ROW", "BAD_RANGE", "NO_CUT",
        "CrackedColumn[int, int, int]",
        "int insert[int]", "int delete[int]", "int restore[int]", "int select[int, int]",
        "int resultRow[int]", "long resultSum[]", "int count[int, int]",
        "int forgetCut[int]", "int cutCount[]", "int cutValue[int]", "int cutBelow[int]",
        "int pieceOf[int]", "int rowState[int]", "int rowValue[int]", "int storedCount[]", "int pendingCount[]");
    private static final Set<Class<?>> TYPES = Set.of(
        int.class, long.class, short.class, byte.class, char.class, boolean.class, void.class);
    private static final List<String> FORBIDDEN = List.of(
        "package", "import", "throw", "throws", "try", "catch", "synchronized", "assert", "instanceof", "null",
        "float", "double", "String", "Object", "Math", "Integer", "Long", "System", "Arrays",
        "interface", "enum", "record", "protected");

    public static void main(String[] args) throws IOException {
        theFaceIsTheDocuments();
        fieldsAreOfTheAllowedTypes();
        methodsAreOfTheAllowedTypes();
        theSourceKeepsToTheLanguage();
        Due.end();
    }

    private static String name(Class<?>[] types) {
        return Arrays.toString(Arrays.stream(types).map(Class::getName).toArray());
    }

    private static String constant(Field f) {
        boolean fixed = Modifier.isStatic(f.getModifiers()) && Modifier.isFinal(f.getModifiers());
        return fixed && f.getType() == int.class ? f.getName() : "not a constant int: " + f.getName();
    }

    private static void note(Set<String> face, int modifiers, String member) {
        if (!Modifier.isPrivate(modifiers)) {
            face.add(Modifier.isPublic(modifiers) ? member : "not private: " + member);
        }
    }

    private static void theFaceIsTheDocuments() {
        Class<?> c = CrackedColumn.class;
        Set<String> face = new TreeSet<>();
        for (Field f : c.getDeclaredFields()) {
            note(face, f.getModifiers(), constant(f));
        }
        for (Constructor<?> m : c.getDeclaredConstructors()) {
            note(face, m.getModifiers(), c.getName() + name(m.getParameterTypes()));
        }
        for (Method m : c.getDeclaredMethods()) {
            note(face, m.getModifiers(), m.getReturnType() + " " + m.getName() + name(m.getParameterTypes()));
        }
        Due.same("the public face", face.toString(), new TreeSet<>(FACE).toString());
        Due.is("public and final", c.getModifiers(), Modifier.PUBLIC | Modifier.FINAL);
        Due.is("nested classes", c.getDeclaredClasses().length, 0);
    }

    private static void fieldsAreOfTheAllowedTypes() {
        for (Field f : CrackedColumn.class.getDeclaredFields()) {
            Class<?> type = f.getType();
            boolean isConstant = Modifier.isFinal(f.getModifiers()) && (type == int.class || type == long.class);
            boolean allowed = Modifier.isStatic(f.getModifiers())
                ? isConstant
                : TYPES.contains(type.isArray() ? type.getComponentType() : type);
            Due.is("field " + f.getName() + " allowed", allowed ? 1 : 0, 1);
        }
    }

    private static void methodsAreOfTheAllowedTypes() {
        Set<String> names = new HashSet<>();
        for (Method m : CrackedColumn.class.getDeclaredMethods()) {
            Due.is("first of the name " + m.getName(), names.add(m.getName()) ? 1 : 0, 1);
            Due.is("answer of " + m.getName() + " allowed", TYPES.contains(m.getReturnType()) ? 1 : 0, 1);
            Due.is("at most seven parameters of " + m.getName(), Math.max(7, m.getParameterCount()), 7);
        }
    }

    private static void theSourceKeepsToTheLanguage() throws IOException {
        String source = Files.readString(SOURCE).replaceAll("//[^\n]*|(?s:/\\*.*?\\*/)", " ");
        for (String word : FORBIDDEN) {
            Due.is("uses of " + word, uses("\\b" + word + "\\b", source), 0);
        }
        Due.is("lambdas and method references", uses("->|::", source), 0);
        Due.is("static initialisers", uses("\\bstatic\\s*\\{", source), 0);
        long madeInFields = uses("private final \\w+\\[\\] \\w+ = new \\w+\\[\\w+\\];", source);
        Due.is("objects and arrays made outside the fields", uses("\\bnew\\b", source) - madeInFields, 0);
    }

    private static long uses(String pattern, String source) {
        return Pattern.compile(pattern).matcher(source).results().count();
    }
}
