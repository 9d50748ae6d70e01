import java.io.IOException;
import java.lang.reflect.InvocationTargetException;
import java.lang.reflect.Method;
import java.nio.file.Files;
import java.nio.file.Path;
import java.util.regex.Matcher;
import java.util.regex.Pattern;

/** The examples of README.md: each call is made, and must answer what stands behind it. */
final class ReadmeTest {
    private static final Pattern MADE = Pattern.compile("SmokeRelay relay = new SmokeRelay\\(\\);");
    private static final Pattern CALL = Pattern.compile("relay\\.(\\w+)\\((.*)\\); +// ([^:]+)(: .*)?");
    private static final Pattern FED = Pattern.compile(
            "for \\(char character : \"([^\"]*)\"\\.toCharArray\\(\\)\\) \\{ relay\\.feed\\(character\\); \\}");
    private static final Pattern OUTPUT = Pattern.compile(": the output is \"(.*)\"");

    private static SmokeRelay relay = new SmokeRelay();
    private static int calls = 0;

    public static void main(String[] arguments) throws IOException, IllegalAccessException {
        boolean isExample = false;
        for (String line : Files.readAllLines(Path.of(System.getProperty("readme", "README.md")))) {
            if (line.startsWith("```")) {
                isExample = line.equals("```java");
            } else if (isExample) {
                example(line);
            }
        }
        Check.due("the README has examples", calls > 40, true);
        Check.finish("ReadmeTest");
    }

    private static void example(String line) throws IllegalAccessException {
        Matcher call = CALL.matcher(line);
        Matcher fed = FED.matcher(line);
        if (MADE.matcher(line).matches()) {
            relay = new SmokeRelay();
        } else if (fed.matches()) {
            Check.feedText(relay, fed.group(1));
        } else if (call.matches()) {
            calls++;
            Check.dueText(line, answer(call.group(1), call.group(2)), call.group(3));
            output(line, call);
        } else {
            Check.dueText("an example that cannot be read: " + line, "unread", "read");
        }
    }

    private static void output(String line, Matcher call) {
        Matcher output = OUTPUT.matcher(call.group(4) == null ? "" : call.group(4));
        if (output.matches()) {
            Check.dueText(line, Check.output(relay, Integer.parseInt(call.group(3))), output.group(1));
        }
    }

    private static String answer(String name, String list) throws IllegalAccessException {
        String[] values = list.isEmpty() ? new String[0] : list.split(", ");
        Object[] arguments = new Object[values.length];
        for (int place = 0; place < values.length; place++) {
            boolean isLetter = values[place].startsWith("'");
            arguments[place] = isLetter ? (Object) values[place].charAt(1) : (Object) Integer.valueOf(values[place]);
        }
        for (Method method : SmokeRelay.class.getMethods()) {
            if (method.getName().equals(name)) {
                return answer(method, arguments);
            }
        }
        return "no such call";
    }

    private static String answer(Method method, Object[] arguments) throws IllegalAccessException {
        try {
            Object got = method.invoke(relay, arguments);
            return got instanceof Character ? "'" + got + "'" : String.valueOf(got);
        } catch (InvocationTargetException e) {
            return "throws " + e.getCause().getClass().getSimpleName();
        }
    }
}
