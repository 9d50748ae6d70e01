import java.io.IOException;
import java.lang.reflect.Field;
import java.lang.reflect.Method;
import java.lang.reflect.Modifier;
import java.nio.file.Files;
import java.nio.file.Path;
import java.util.Arrays;
import java.util.List;
import java.util.TreeSet;
import java.util.regex.MatchResult;
import java.util.regex.Pattern;

/** The members of the class are those of the document's face, and no others can be seen from outside. */
final class FaceTest {
    /** A member as it is written, up to its body or its end. */
    private static final Pattern MEMBER = Pattern.compile("(?m)^    (public [^{;]+)");
    private static final String[] METHODS = {
        "int setGround(int,int)", "int addTower(int,int,int)", "int setMood(int,int)", "int ground(int)",
        "int towerCount()", "int positionOf(int)", "int eye(int)", "int mood(int)", "int towerAt(int)",
        "int towerByEye(int)", "boolean canSee(int,int)", "boolean canSeeBySlopes(int,int)",
        "boolean seesPosition(int,int)", "int seenPositions(int)", "int watchersOf(int)", "int fewestWatchers()",
        "int fewestWatchersByRecursion()", "int setWind(int)", "int wind()", "int delay(int,int)",
        "int relayDelay(int,int)", "int relayDelayByTable(int,int)", "int relayLength(int,int)",
        "int relayTower(int,int,int)", "int groupCount()", "int pattern(char)", "char read(int)",
        "char readBySearch(int)", "int wrongSmokes(int)", "int nextPattern(int,char)", "int send(int,int,char)",
        "boolean wouldBeRefused(int,int,char)", "int count(int)", "int logLength(int)", "char logLetter(int,int)",
        "int sent(char)", "int bestCost()", "int bestCostByRows()", "int refusalReason()", "int refusalDetail()",
        "double meanEye()", "float calmFraction()", "int writeTower(int)", "int writeRelay(int,int)",
        "int writePattern(int)", "char outputCharacter(int)", "boolean isConsistent()", "int feed(char)",
        "int execute()", "int errorPosition()", "int failedCommand()", "int undo()", "int undoCount()", "int save()",
        "int restore()"
    };

    public static void main(String[] arguments) throws IOException {
        Check.due("NO_RELAY", SmokeRelay.NO_RELAY, 1);
        Check.due("GARBLED", SmokeRelay.GARBLED, 2);
        Check.due("the class is public and final", SmokeRelay.class.getModifiers(), Modifier.PUBLIC | Modifier.FINAL);
        Check.due("constructors", SmokeRelay.class.getDeclaredConstructors().length, 1);
        Check.due("public constructors", SmokeRelay.class.getConstructors().length, 1);
        methods();
        fields();
        for (Class<?> inside : SmokeRelay.class.getDeclaredClasses()) {
            Check.due(inside + " is static", Modifier.isStatic(inside.getModifiers()), true);
            Check.due(inside + " is hidden", inside.getModifiers() & (Modifier.PUBLIC | Modifier.PROTECTED), 0);
        }
        writtenMembers();
        Check.finish("FaceTest");
    }

    /** The same members in the same order with the same names of parameters and the same exceptions. */
    private static void writtenMembers() throws IOException {
        Path document = Path.of(System.getProperty("document", "../shared/DOC.md"));
        Path source = Path.of(System.getProperty("source", "src/main/java/SmokeRelay.java"));
        if (!Files.exists(document) || !Files.exists(source)) {
            System.out.println("the document or the source is not there, so they are not compared");
            return;
        }
        String section = Files.readString(document).split("\n## ")[2];
        List<String> due = membersOf(section);
        List<String> got = membersOf(Files.readString(source));
        Check.due("members in the document", due.size(), METHODS.length + 3);
        for (int member = 0; member < Math.max(due.size(), got.size()); member++) {
            Check.dueText("member " + member, member < got.size() ? got.get(member) : "nothing",
                    member < due.size() ? due.get(member) : "nothing");
        }
    }

    private static List<String> membersOf(String text) {
        return MEMBER.matcher(text).results().map(MatchResult::group)
                .map(member -> member.trim().replaceAll("\\s+", " ")).toList();
    }

    private static void methods() {
        TreeSet<String> visible = new TreeSet<>();
        TreeSet<String> hidden = new TreeSet<>();
        TreeSet<String> names = new TreeSet<>();
        for (Method method : SmokeRelay.class.getDeclaredMethods()) {
            if (Modifier.isPrivate(method.getModifiers()) || method.isSynthetic()) {
                hidden.add(method.getName());
                continue;
            }
            Check.due(method + " is public", Modifier.isPublic(method.getModifiers()), true);
            visible.add(told(method));
            names.add(method.getName());
        }
        Check.dueText("methods", visible.toString(), new TreeSet<>(Arrays.asList(METHODS)).toString());
        hidden.retainAll(names);
        Check.dueText("private methods with a public name", hidden.toString(), "[]");
    }

    private static String told(Method method) {
        StringBuilder text = new StringBuilder(method.getReturnType() + " " + method.getName() + "(");
        for (Class<?> parameter : method.getParameterTypes()) {
            text.append(text.charAt(text.length() - 1) == '(' ? "" : ",").append(parameter);
        }
        return text.append(")").toString();
    }

    private static void fields() {
        TreeSet<String> visible = new TreeSet<>();
        for (Field field : SmokeRelay.class.getDeclaredFields()) {
            int modifiers = field.getModifiers();
            if (!Modifier.isPrivate(modifiers) && !field.isSynthetic()) {
                visible.add(Modifier.toString(modifiers) + " " + field.getType() + " " + field.getName());
            }
            if (Modifier.isStatic(modifiers)) {
                Check.due(field + " is final", Modifier.isFinal(modifiers), true);
            }
        }
        Check.dueText("fields", visible.toString(),
                "[public static final int GARBLED, public static final int NO_RELAY]");
    }
}
