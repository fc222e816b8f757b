import java.lang.reflect.Field;
import java.lang.reflect.Method;
import java.lang.reflect.Modifier;
import java.nio.file.Files;
import java.nio.file.Path;
import java.util.HashSet;
import java.util.List;
import java.util.Set;
import java.util.regex.Matcher;
import java.util.regex.Pattern;

/** What can be seen of the rules of LANGUAGE.md in the source and in the compiled class. */
public final class SourceRulesTest {
    private static final Path SOURCE = Path.of("src/main/java/SteeringHouse.java");

    public static void main(String[] args) throws Exception {
        List<String> lines = Files.readAllLines(SOURCE);
        words(String.join("\n", lines));
        lengths(lines);
        members();
        Checks.end("SourceRulesTest");
    }

    private static void words(String source) {
        String code = source.replaceAll("(?s)/\\*.*?\\*/", "").replaceAll("//[^\n]*", "");
        for (String word : List.of("catch", "try", "finally", "synchronized", "assert", "instanceof", "package", "native",
                "MIN_VALUE", "MAX_VALUE", "double", "float", "Exact", "->", "::", "Thread", "Random", "System.out",
                "hashCode", "toString", "equals", "goto", "static {", "protected", "@")) {
            Checks.due("the source has " + word, code.contains(word) && Pattern.compile(
                    Character.isLetter(word.charAt(0)) ? "\\b" + Pattern.quote(word) : Pattern.quote(word)).matcher(code)
                    .find() ? 1 : 0, 0);
        }
        Matcher imports = Pattern.compile("import ([a-zA-Z.]+);").matcher(code);
        while (imports.find()) {
            Checks.due(imports.group(), Set.of("java.util.Arrays", "java.util.NoSuchElementException")
                    .contains(imports.group(1)) ? 1 : 0, 1);
        }
        Checks.due("throws of its own", code.split("throw new NoSuchElementException\\(", -1).length - 1, 1);
        Checks.due("other throws", code.split("throw new ", -1).length - 1, 1);
        for (int i = 0; i < source.length(); i++) {
            if (source.charAt(i) > 126) {
                Checks.due("sign at " + i, source.charAt(i), 126);
            }
        }
    }

    /** A method is what stands between a line that opens it and the brace at the same depth. */
    private static void lengths(List<String> lines) {
        Pattern opening = Pattern.compile("^( {4}| {8})(public|private)[^=;]*\\)( throws \\w+)? \\{$");
        for (int i = 0; i < lines.size(); i++) {
            Matcher start = opening.matcher(lines.get(i));
            if (start.matches()) {
                int end = i;
                while (!lines.get(end).equals(start.group(1) + "}")) {
                    end++;
                }
                Checks.due("lines of " + lines.get(i).trim(), end - i + 1 <= 60 ? 1 : 0, 1);
            }
            Checks.due("width of line " + (i + 1), lines.get(i).length() <= 120 ? 1 : 0, 1);
        }
    }

    private static void members() {
        Set<String> open = new HashSet<>();
        for (Method method : SteeringHouse.class.getDeclaredMethods()) {
            Checks.due(method + " is public or private",
                    Modifier.isPublic(method.getModifiers()) || Modifier.isPrivate(method.getModifiers()) ? 1 : 0, 1);
            if (Modifier.isPublic(method.getModifiers())) {
                open.add(method.getName());
            }
        }
        members(SteeringHouse.class, open);
        Class<?>[] inside = SteeringHouse.class.getDeclaredClasses();
        Checks.due("some twelve classes", inside.length + 1 <= 12 ? 1 : 0, 1);
        for (Class<?> each : inside) {
            Checks.due(each + " is private and static",
                    Modifier.isPrivate(each.getModifiers()) && Modifier.isStatic(each.getModifiers()) ? 1 : 0, 1);
            members(each, open);
        }
    }

    private static void members(Class<?> each, Set<String> open) {
        int fields = 0;
        for (Field field : each.getDeclaredFields()) {
            boolean constant = Modifier.isStatic(field.getModifiers());
            fields += constant ? 0 : 1;
            Checks.due(field + " is private or NONE",
                    Modifier.isPrivate(field.getModifiers()) || field.getName().equals("NONE") ? 1 : 0, 1);
            Checks.due(field + " is final if static", !constant || Modifier.isFinal(field.getModifiers()) ? 1 : 0, 1);
        }
        Checks.due("fields of " + each, fields <= 20 ? 1 : 0, 1);
        for (Method method : each.getDeclaredMethods()) {
            boolean hidden = Modifier.isPrivate(method.getModifiers());
            Checks.due(method + " bears no public one's name", hidden && open.contains(method.getName()) ? 1 : 0, 0);
            Checks.due(method + " has seven parameters at most", method.getParameterCount() <= 7 ? 1 : 0, 1);
        }
    }
}
