import java.io.IOException;
import java.nio.file.Files;
import java.nio.file.Path;
import java.util.ArrayList;
import java.util.HashSet;
import java.util.LinkedHashMap;
import java.util.List;
import java.util.Map;
import java.util.Set;
import java.util.regex.Pattern;

/**
 * The sentences of the document. A sentence that promises something has a test of its own, which is told by the
 * sentence's very words, so that a test without a sentence and a sentence without a test both come to light.
 */
final class Sentences {
    private static final Pattern SIGNATURE = Pattern.compile("^(\\w+ )?\\w+\\([^)]*\\)( throws [\\w, ]+)?: ");
    /** The names of parameters (FaceTest looks them up), comments of the interface, names of terms, the overview. */
    private static final Pattern NO_PROMISE = Pattern.compile("\\w+: the (position|height|mood|wind|letter|pattern"
            + "|index of the (one |other |first |last )?tower)|Ahead of the calls .* the interface says: .*"
            + "|(Ground and towers|Sight|Wind|Relays|Patterns|Moods|Sending|Codes|Watches|Commands|Undo)\\."
            + "|A row of watchtowers with chimneys: .*");

    private static final Set<String> tested = new HashSet<>();
    private static String heading = "";

    private Sentences() {
    }

    static void under(String newHeading) {
        heading = newHeading;
    }

    /** Tests a sentence that stands under the heading named last. */
    static void holds(String sentence, Runnable test) {
        String told = heading + ": " + sentence;
        Check.due(told + " (tested once)", tested.add(told), true);
        Check.within(told + "\n    ", test);
    }

    /** Two sentences under one heading that say the same. */
    static void hold(String sentence, String other, Runnable test) {
        holds(sentence, test);
        Check.due(heading + ": " + other + " (tested once)", tested.add(heading + ": " + other), true);
    }

    static void dueAllTested(String path) {
        Map<String, List<String>> document = read(path);
        if (document.isEmpty()) {
            System.out.println("the document is not there, so its sentences are not looked up: " + path);
            return;
        }
        Set<String> standing = new HashSet<>();
        for (Map.Entry<String, List<String>> section : document.entrySet()) {
            for (String sentence : section.getValue()) {
                String told = section.getKey() + ": " + sentence;
                standing.add(told);
                if (!NO_PROMISE.matcher(sentence).matches()) {
                    Check.due("tested: " + told, tested.contains(told), true);
                }
            }
        }
        for (String told : tested) {
            Check.due("stands in the document: " + told, standing.contains(told), true);
        }
    }

    private static Map<String, List<String>> read(String path) {
        Map<String, List<String>> sections = new LinkedHashMap<>();
        String text;
        try {
            text = Files.readString(Path.of(path)).replace("`", "");
        } catch (IOException e) {
            return sections;
        }
        for (String section : text.split("\n## ")) {
            int end = section.indexOf('\n');
            String title = section.substring(0, Math.max(end, 0)).replaceFirst(":.*", "");
            if (title.startsWith("Promise ") || title.equals("Terms") || title.equals("What it is")) {
                sections.put(title, sentencesOf(section.substring(end).trim()));
            }
        }
        return sections;
    }

    private static List<String> sentencesOf(String section) {
        List<String> sentences = new ArrayList<>();
        for (String paragraph : section.split("\n\\s*\n|\n(?=- )")) {
            String folded = SIGNATURE.matcher(paragraph.trim().replaceAll("\\s+", " ")).replaceFirst("");
            for (String sentence : folded.replaceFirst("^- ", "").split("(?<=\\.) (?=[A-Z])")) {
                sentences.add(sentence);
            }
        }
        return sentences;
    }
}
