import java.io.IOException;
import java.lang.reflect.Field;
import java.lang.reflect.Method;
import java.lang.reflect.Modifier;
import java.nio.file.Files;
import java.nio.file.Path;
import java.util.ArrayList;
import java.util.List;
import java.util.Map;
import java.util.Set;
import java.util.TreeSet;
import java.util.regex.Matcher;
import java.util.regex.Pattern;

/** The rules of LANGUAGE.md that are seen in the text of the class or in its members; stricter where it needs less. */
final class LanguageTest {
    private static final Pattern COMMENTS = Pattern.compile("(?s)/\\*.*?\\*/|//[^\\n]*");
    private static final Pattern LITERALS = Pattern.compile("\"(\\\\.|[^\"\\\\])*\"|'(\\\\.|[^'\\\\])'");
    private static final Set<String> IMPORTS = Set.of("java.util.Arrays", "java.util.NoSuchElementException",
            "java.util.ArrayList", "java.util.List", "java.util.Iterator");
    private static final Map<String, Set<String>> LIBRARY = Map.of("Math", Set.of("max", "min", "abs", "floorMod"),
            "Integer", Set.of("compare", "max", "min", "bitCount"), "System", Set.of("arraycopy"),
            "Arrays", Set.of("copyOf", "copyOfRange", "fill"));
    private static final String[] UNUSED = {"->", "::", "while \\(true\\)", "for \\(;;\\)"};
    private static final String[] UNUSED_WORDS = {"try", "catch", "finally", "synchronized", "assert", "protected",
        "package", "volatile", "native", "instanceof", "getMessage", "hashCode", "toString", "equals", "Thread",
        "Random", "Exception", "Error", "Object"};
    private static final Pattern THROW = Pattern.compile("\\bthrow (?!new (IllegalState|IllegalArgument"
            + "|IndexOutOfBounds|Arithmetic|UnsupportedOperation|NoSuchElement)Exception\\(\"[^\"]*\"\\);)");
    private static final Pattern JOINED = Pattern.compile("\"\\s*\\+|\\+\\s*\"");
    private static final int MOST_CLASSES = 12;
    private static final int MOST_FIELDS = 20;
    private static final int MOST_PARAMETERS = 7;
    private static final int MOST_LINES = 60;

    public static void main(String[] arguments) throws IOException {
        String source = Files.readString(Path.of(System.getProperty("source", "src/main/java/SmokeRelay.java")));
        text(source);
        library(LITERALS.matcher(COMMENTS.matcher(source).replaceAll("")).replaceAll("0"));
        lengths(source);
        classes();
        Check.finish("LanguageTest");
    }

    private static void dueNone(String what, Pattern pattern, String text) {
        Matcher matcher = pattern.matcher(text);
        Check.dueText(what, matcher.find() ? matcher.group() : "nowhere", "nowhere");
    }

    private static void text(String source) {
        dueNone("a sign other than 1 to 127", Pattern.compile("[^\\x01-\\x7F]"), source);
        String bare = COMMENTS.matcher(source).replaceAll("");
        dueNone("another throw", THROW, bare);
        dueNone("a text joined by +", JOINED, bare);
        String code = LITERALS.matcher(bare).replaceAll("0");
        for (String unused : UNUSED) {
            dueNone(unused, Pattern.compile(unused), code);
        }
        for (String word : UNUSED_WORDS) {
            dueNone(word, Pattern.compile("\\b" + word + "\\b"), code);
        }
    }

    private static void library(String code) {
        Matcher imports = Pattern.compile("(?m)^import ([\\w.*]+);").matcher(code);
        while (imports.find()) {
            Check.due("import of " + imports.group(1), IMPORTS.contains(imports.group(1)), true);
        }
        for (Map.Entry<String, Set<String>> entry : LIBRARY.entrySet()) {
            Matcher used = Pattern.compile("\\b" + entry.getKey() + "\\.(\\w+)").matcher(code);
            while (used.find()) {
                Check.due(used.group(), entry.getValue().contains(used.group(1)), true);
            }
        }
        dueNone("another name of the library", Pattern.compile("\\b(java|javax)\\.(?!util\\.(Arrays|NoSuchElement))"),
                code);
    }

    /** A method begins with a line that opens a body behind parameters, and ends where the indentation is the same. */
    private static void lengths(String source) {
        List<String> lines = source.lines().toList();
        Pattern end = Pattern.compile("^( {4}| {8})}$");
        Pattern begin = Pattern.compile("^( {4}| {8})(?!(if|for|while|switch|else)\\b)\\w.*\\(.*");
        int first = 0;
        for (int line = 0; line < lines.size(); line++) {
            Check.due("columns of line " + (line + 1) + " are few", lines.get(line).length() <= 120, true);
            if (begin.matcher(lines.get(line)).matches()) {
                first = line;
            }
            if (end.matcher(lines.get(line)).matches()) {
                Check.due("lines up to line " + (line + 1) + " are few", line - first < MOST_LINES, true);
            }
        }
    }

    private static void classes() {
        List<Class<?>> classes = new ArrayList<>(List.of(SmokeRelay.class));
        for (int next = 0; next < classes.size(); next++) {
            classes.addAll(List.of(classes.get(next).getDeclaredClasses()));
        }
        Check.due("classes are few", classes.size() <= MOST_CLASSES, true);
        for (Class<?> kind : classes) {
            fields(kind);
            methods(kind);
        }
    }

    private static void fields(Class<?> kind) {
        int fields = 0;
        for (Field field : kind.getDeclaredFields()) {
            if (field.isSynthetic()) {
                continue;
            }
            fields += Modifier.isStatic(field.getModifiers()) ? 0 : 1;
            if (Modifier.isStatic(field.getModifiers())) {
                Check.due(field + " is final", Modifier.isFinal(field.getModifiers()), true);
                Check.due(field + " is of a kind that may be static", mayBeStatic(field), true);
            }
            Check.due(field + " is of a kind that may be kept", mayBeKept(field.getType()), true);
        }
        Check.due("fields of " + kind + " are few", fields <= MOST_FIELDS, true);
    }

    private static boolean mayBeStatic(Field field) {
        Class<?> type = field.getType();
        return Set.of(int.class, long.class, boolean.class, char.class, String.class, int[].class, long[].class,
                char[].class, byte[].class).contains(type) || field.isEnumConstant()
                || type.isArray() && type.getComponentType().isEnum();
    }

    private static boolean mayBeKept(Class<?> type) {
        Class<?> part = type;
        while (part.isArray()) {
            part = part.getComponentType();
        }
        return part.isPrimitive() || part == String.class || part.getName().startsWith("SmokeRelay$");
    }

    private static void methods(Class<?> kind) {
        Set<String> publicNames = new TreeSet<>();
        for (Method method : SmokeRelay.class.getMethods()) {
            publicNames.add(method.getName());
        }
        for (Method method : kind.getDeclaredMethods()) {
            if (method.isSynthetic()) {
                continue;
            }
            Check.due(method + " has few parameters", method.getParameterCount() <= MOST_PARAMETERS, true);
            if (Modifier.isPrivate(method.getModifiers())) {
                Check.due(method + " bears a public name", publicNames.contains(method.getName()), false);
            }
        }
    }
}
