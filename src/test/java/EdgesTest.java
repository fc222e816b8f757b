import java.lang.reflect.Constructor;
import java.lang.reflect.Method;
import java.lang.reflect.Modifier;
import java.nio.charset.StandardCharsets;
import java.nio.file.Files;
import java.nio.file.Path;
import java.util.ArrayList;
import java.util.LinkedHashMap;
import java.util.List;
import java.util.Map;
import java.util.Set;
import java.util.TreeSet;
import java.util.regex.Matcher;
import java.util.regex.Pattern;

/**
 * The document sentence by sentence, at its edges. Each test names the words that it is the test of; here it is
 * looked at whether these words stand in the document, and whether any words of its Terms and promises have no test.
 */
public final class EdgesTest {
    private static final Path DOCUMENT = Path.of("../shared/DOC.md");

    private EdgesTest() {
    }

    public static void main(String[] args) throws Exception {
        TextEdges.all();
        ThingEdges.all();
        WishEdges.all();
        LinearEdges.all();
        WatcherEdges.all();
        ProofEdges.all();
        List<Checks.Sentence> sentences = new ArrayList<>(Checks.SENTENCES);
        Checks.SENTENCES.clear();
        String document = Files.readString(DOCUMENT, StandardCharsets.UTF_8);
        everyWordHasItsTest(document, sentences);
        theFaceIsAsTold(document);
        System.out.println("EdgesTest: " + sentences.size() + " sentences of the document");
        Checks.end("EdgesTest");
    }

    /** The parts of the document that promise: I to VI, 1 to 46, the constants, and the sentence on its use. */
    private static Map<String, String> parts(String document) {
        Map<String, String> parts = new LinkedHashMap<>();
        String part = "";
        for (String line : document.split("\n")) {
            Matcher promise = Pattern.compile("## Promise (\\d+): .*").matcher(line);
            Matcher term = Pattern.compile("([IV]+)\\. (.*)").matcher(line);
            if (promise.matches()) {
                part = promise.group(1);
            } else if (line.startsWith("#")) {
                part = "";
            } else if (term.matches()) {
                part = term.group(1);
                parts.put(part, term.group(2));
            } else if (line.startsWith("The constants: ")) {
                parts.put("constants", line.substring(15));
            } else if (line.startsWith("An object is used")) {
                parts.put("use", line);
            } else if (line.startsWith("Ahead of the calls") || line.startsWith("```") || line.isBlank()) {
                continue;
            } else if (!part.isEmpty()) {
                parts.merge(part, line.strip().replaceFirst("^`[^`]*`: ", ""), (a, b) -> a + " " + b);
            }
        }
        return parts;
    }

    private static void everyWordHasItsTest(String document, List<Checks.Sentence> sentences) {
        Map<String, String> parts = parts(document);
        Map<String, boolean[]> tested = new LinkedHashMap<>();
        parts.forEach((part, words) -> tested.put(part, new boolean[words.length()]));
        for (Checks.Sentence each : sentences) {
            String words = parts.getOrDefault(each.part, "");
            int at = words.indexOf(each.words);
            report(at >= 0, "these words don't stand in " + each.part + ": " + each.words);
            report(each.answers > 0, "nothing is asked of " + each.part + ": " + each.words);
            for (int i = at; at >= 0 && i < at + each.words.length(); i++) {
                tested.get(each.part)[i] = true;
            }
        }
        report(parts.size() == 6 + 46 + 2, "parts: " + parts.keySet());
        parts.forEach((part, words) -> report(part.equals("use") || left(words, tested.get(part)).isBlank(),
                "words of " + part + " without a test: " + left(words, tested.get(part))));
    }

    /** Every line of the face that the document shows, and no other, is public in the class. */
    private static void theFaceIsAsTold(String document) {
        Set<String> told = new TreeSet<>();
        Matcher line = Pattern.compile("(?m)^    (public .*);$").matcher(document);
        while (line.find()) {
            told.add(line.group(1).replaceAll("(int|boolean) \\w+(?=[,)])", "$1"));
        }
        Set<String> there = new TreeSet<>();
        for (Method each : SteeringHouse.class.getDeclaredMethods()) {
            if (Modifier.isPublic(each.getModifiers())) {
                there.add(each.toGenericString().replace("SteeringHouse.", "").replace("java.util.", "")
                        .replace(",", ", "));
            }
        }
        for (Constructor<?> each : SteeringHouse.class.getDeclaredConstructors()) {
            there.add(each.toGenericString());
        }
        there.add("public static final int NONE = " + SteeringHouse.NONE);
        report(told.equals(there), "the face: " + told + " told, " + there + " there");
        report(Modifier.isFinal(SteeringHouse.class.getModifiers()), "the class is final");
    }

    private static String left(String words, boolean[] tested) {
        StringBuilder left = new StringBuilder();
        for (int i = 0; i < words.length(); i++) {
            left.append(tested[i] ? ' ' : words.charAt(i));
        }
        return left.toString().strip();
    }

    private static void report(boolean fine, String what) {
        Checks.due(what, fine, true);
    }
}
