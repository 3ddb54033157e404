import java.io.IOException;
import java.nio.file.Files;
import java.nio.file.Path;
import java.util.ArrayList;
import java.util.LinkedHashMap;
import java.util.List;
import java.util.Map;
import java.util.regex.Matcher;
import java.util.regex.Pattern;

/**
 * The class keeps to ../shared/LANGUAGE.md, as far as its text shows it; each row names the rule's
 * number. It is read from the project's folder, where .ci/run starts the tests, and its layout is
 * relied on: a method begins and ends with a line that is indented by four spaces, and a bracket
 * stands right behind the name of a method but not right behind `if` or `for`.
 */
public final class LanguageTest {
    private static final Path SOURCE = Path.of("src/main/java/TraceExplorer.java");

    private static final String[][] FORBIDDEN = {
        {"1", "package|protected|interface|enum|record|extends|implements"},
        {"2", "float|double|String|Object|var"},
        {"3", "import|java|Math|Integer|Long|System|Arrays|toString|hashCode|equals|getClass"},
        {"4", "null"},
        {"6", "throw|throws|try|catch|finally|synchronized|assert|instanceof"},
        {"11", "Thread|Random|Runtime"},
    };

    private static final Pattern HEAD = Pattern.compile("^    (?:public|private)[\\w\\[\\] ]* (\\w+)\\((.*)\\) \\{$");
    private static final Pattern FIELD = Pattern.compile("^    (?:public|private)[\\w\\[\\] ]* \\w+( = .*)?;$");
    private static final Pattern CONSTANT = Pattern.compile("^    private static final (?:int|long) \\w+ = -?\\d+;$");
    private static final Pattern ARRAY = Pattern.compile("^    private final (\\w+)\\[\\] \\w+ = new \\1\\[(?:[1-9]\\d*|[A-Z_]+)\\];$");
    private static final Pattern CALL = Pattern.compile("\\b([a-z]\\w*)\\(");
    private static final Pattern LOOP = Pattern.compile("\\b(?:for|while) \\(");

    private static final int MOST_LINES = 60;
    private static final int MOST_FIELDS = 40;
    private static final int MOST_PARAMETERS = 7;
    private static final int MOST_DEPTH = 6;

    public static void main(String[] args) throws IOException {
        String text = withoutComments(Files.readString(SOURCE));
        forbiddenWords(text);
        List<String> lines = text.lines().toList();
        Map<String, String> methods = methods(lines);
        fields(lines);
        calls(methods);
        Due.end();
    }

    private static String withoutComments(String text) {
        return text.replaceAll("(?s)/\\*.*?\\*/", "").replaceAll("//.*", "");
    }

    private static void forbiddenWords(String text) {
        for (String[] row : FORBIDDEN) {
            Due.due("rule " + row[0] + ": uses of " + row[1], count("\\b(?:" + row[1] + ")\\b", text), 0);
        }
        Due.due("rule 1: classes", count("\\bclass\\b", text), 1);
        Due.due("rule 2: arrays of arrays", count("\\]\\s*\\[\\s*\\]|\\[\\s*\\]\\s*\\[", text), 0);
        Due.due("rule 2: texts", count("\"", text), 0);
        Due.due("rule 5: static initialisers", count("static\\s*\\{", text), 0);
        Due.due("rule 6: lambdas and method references", count("->|::", text), 0);
    }

    private static int count(String pattern, String text) {
        return (int) Pattern.compile(pattern).matcher(text).results().count();
    }

    /** Every array is made by a field's own line, and by nothing else. */
    private static void fields(List<String> lines) {
        int fields = 0;
        for (String line : lines) {
            boolean isField = FIELD.matcher(line).matches();
            boolean isStatic = isField && line.contains(" static ");
            fields += isField && !isStatic ? 1 : 0;
            if (isStatic) {
                Due.due("rule 5: a constant: " + line, CONSTANT.matcher(line).matches() ? 1 : 0, 1);
            }
            if (isField && line.contains("[") || line.matches(".*\\bnew\\b.*")) {
                Due.due("rule 4: an array made at the start: " + line, ARRAY.matcher(line).matches() ? 1 : 0, 1);
            }
        }
        Due.due("rule 10: fields are found", fields > 0 ? 1 : 0, 1);
        Due.due("rule 10: fields over " + MOST_FIELDS, Math.max(0, fields - MOST_FIELDS), 0);
    }

    /** The bodies by their names; a name that comes twice would be a private one like a public one. */
    private static Map<String, String> methods(List<String> lines) {
        Map<String, String> bodies = new LinkedHashMap<>();
        for (int at = 0; at < lines.size(); at++) {
            Matcher head = HEAD.matcher(lines.get(at));
            if (!head.matches()) {
                continue;
            }
            int end = lines.subList(at, lines.size()).indexOf("    }") + at;
            String name = head.group(1);
            Due.due("rule 1: a second method " + name, bodies.containsKey(name) ? 1 : 0, 0);
            Due.due("rule 10: lines of " + name + " over " + MOST_LINES, Math.max(0, end - at + 1 - MOST_LINES), 0);
            int parameters = head.group(2).isEmpty() ? 0 : head.group(2).split(",").length;
            Due.due("rule 10: parameters of " + name + " over " + MOST_PARAMETERS, Math.max(0, parameters - MOST_PARAMETERS), 0);
            bodies.put(name, String.join("\n", lines.subList(at + 1, end)));
        }
        Due.due("methods are found", bodies.containsKey("shortestStuck") ? 1 : 0, 1);
        return bodies;
    }

    private static void calls(Map<String, String> methods) {
        for (Map.Entry<String, String> method : methods.entrySet()) {
            String name = method.getKey();
            for (String head : inBrackets(LOOP, method.getValue())) {
                Due.due("rule 8: a bound in (" + head + ") in " + name, head.matches(".*[<>].*") ? 1 : 0, 1);
            }
            for (String arguments : inBrackets(CALL, method.getValue())) {
                Due.due("rule 10: calls in the arguments (" + arguments + ") in " + name, called(arguments).size(), 0);
            }
            for (String other : called(method.getValue())) {
                Due.due("rule 3: " + name + " calls a method of another class: " + other, methods.containsKey(other) ? 0 : 1, 0);
            }
            int depth = depth(name, methods, new ArrayList<>());
            Due.due("rules 8 and 10: depth of " + name + " over " + MOST_DEPTH, Math.max(0, depth - MOST_DEPTH), 0);
        }
    }

    private static List<String> called(String text) {
        return CALL.matcher(text).results().map(call -> call.group(1)).toList();
    }

    /** What stands between the brackets that the pattern opens. */
    private static List<String> inBrackets(Pattern opening, String text) {
        return opening.matcher(text).results()
                .map(found -> text.substring(found.end(), closing(text, found.end()))).toList();
    }

    /** Where the bracket closes that is open at `from`. */
    private static int closing(String text, int from) {
        int open = 1;
        int at = from;
        while (open > 0) {
            open += text.charAt(at) == '(' ? 1 : text.charAt(at) == ')' ? -1 : 0;
            at++;
        }
        return at - 1;
    }

    /** How many methods deep a call of `name` goes; a method that comes back to itself is too deep. */
    private static int depth(String name, Map<String, String> methods, List<String> above) {
        if (above.contains(name)) {
            return MOST_DEPTH + 1;
        }
        List<String> here = new ArrayList<>(above);
        here.add(name);
        int deepest = 0;
        for (String other : called(methods.getOrDefault(name, ""))) {
            deepest = Math.max(deepest, depth(other, methods, here));
        }
        return deepest + 1;
    }
}
