import java.io.IOException;
import java.nio.file.Files;
import java.nio.file.Path;
import java.util.Map;
import java.util.TreeMap;
import java.util.regex.Matcher;
import java.util.regex.Pattern;

/**
 * What the source tells of the rules of LANGUAGE.md. It is read line by line as this project sets it out, and in
 * some places the test is stricter than the rule, to stay simple.
 */
public final class LanguageTest {
    private static final Path SOURCE = Path.of("src/main/java/DisjointPaths.java");
    private static final Pattern RULED_OUT = Pattern.compile(
        "\\b(package|import|float|double|throw|throws|try|catch|finally|synchronized|assert|instanceof|null"
        + "|interface|enum|record|extends|implements|native|volatile|transient|var"
        + "|String|Math|Integer|Long|System|Arrays|Object|getClass|hashCode|equals|toString)\\b"
        + "|\\bstatic\\s*\\{|->|::|\"|\\b\\w+\\.\\w+");
    private static final Pattern ARRAY_FIELD =
        Pattern.compile("    private final (\\w+)\\[\\] \\w+ = new \\1\\[([1-9]\\d*|[A-Z_]+)\\];");
    private static final Pattern CONSTANT =
        Pattern.compile("    (public|private) static final (int|long) [A-Z_]+ = -?\\d+;");
    private static final Pattern HEAD = Pattern.compile("    (public|private) .*?(\\w+)\\((.*)\\) \\{");
    private static final Pattern CALL = Pattern.compile("\\b(?!if\\b|for\\b|while\\b|switch\\b|return\\b)(\\w+)\\(");
    private static final Pattern COUNTED = Pattern.compile("for \\(int (\\w+) = [^;]+; \\1 <=? (\\w+); \\1\\+\\+\\)");
    private static final int MOST_LINES = 60;
    private static final int MOST_DEEP = 6;
    private static final int MOST_FIELDS = 40;

    public static void main(String[] args) throws IOException {
        String code = Files.readString(SOURCE).replaceAll("(?s)/\\*.*?\\*/", " ").replaceAll("//[^\n]*", "");
        Map<String, String> bodies = bodies(code);
        nothingRuledOut(code);
        staticFieldsAreConstants(code);
        arraysAreMadeInFields(code);
        loopsAreCounted(bodies);
        callsStandAlone(code);
        methodsAreShort(bodies);
        callsGoSixDeep(bodies);
        Due.end();
    }

    private static Map<String, String> bodies(String code) {
        Map<String, String> bodies = new TreeMap<>();
        String name = null;
        for (String line : code.split("\n")) {
            Matcher head = HEAD.matcher(line);
            if (head.matches()) {
                name = head.group(2);
                Due.is("two methods of the name " + name, bodies.containsKey(name), false);
                bodies.put(name, "");
            } else if (line.equals("    }")) {
                name = null;
            } else if (name != null) {
                bodies.merge(name, line + "\n", String::concat);
            }
        }
        Due.holds("the methods are found", bodies.containsKey("paths") && bodies.containsKey("clear"));
        return bodies;
    }

    private static void nothingRuledOut(String code) {
        Matcher word = RULED_OUT.matcher(code);
        while (word.find()) {
            Due.is("rules 1, 2, 3, 5 and 6", word.group(), "not there");
        }
    }

    private static void staticFieldsAreConstants(String code) {
        for (String line : code.split("\n")) {
            if (line.matches(".*\\bstatic\\b[^(]*[=;].*")) {
                Due.holds("rule 5: " + line, CONSTANT.matcher(line).matches());
            }
        }
    }

    private static void arraysAreMadeInFields(String code) {
        int fields = 0;
        for (String line : code.split("\n")) {
            if (line.contains("[]") || line.matches(".*\\bnew\\b.*")) {
                Due.holds("rule 4: " + line, ARRAY_FIELD.matcher(line).matches());
            }
            fields += line.matches("    private (?!static)[^(]*;") ? 1 : 0;
        }
        Due.holds("rule 10: fields: " + fields, fields <= MOST_FIELDS);
    }

    private static void loopsAreCounted(Map<String, String> bodies) {
        for (Map.Entry<String, String> method : bodies.entrySet()) {
            String body = method.getValue();
            boolean uncounted = body.matches("(?s).*\\b(while|do)\\b.*");
            Due.is("rule 8: a loop without a counter in " + method.getKey(), uncounted, false);
            Matcher loop = Pattern.compile("for \\([^{]*\\)").matcher(body);
            while (loop.find()) {
                Matcher counted = COUNTED.matcher(loop.group());
                if (counted.matches()) {
                    boundIsKept(body, counted.group(1), counted.group(2));
                } else {
                    Due.is("rule 8: " + loop.group(), "not counted", "counted");
                }
            }
        }
    }

    private static void boundIsKept(String body, String counter, String bound) {
        int loops = countOf("for \\(int " + counter + "\\b", body);
        String change = "\\b%1$s *(\\+\\+|--|([-+*/%%&|^]|<<|>>>?)?=(?!=))|(\\+\\+|--)%1$s\\b";
        // Each head has two: the counter's beginning and its step.
        int ofCounter = countOf(String.format(change, counter), body);
        Due.is("rule 8: changes of the counter " + counter, ofCounter, 2 * loops);
        int ofBound = countOf(String.format(change, bound), body);
        Due.holds("rule 8: changes of the bound " + bound + ": " + ofBound, ofBound <= 1);
    }

    private static int countOf(String pattern, String body) {
        return (int) Pattern.compile(pattern).matcher(body).results().count();
    }

    private static void callsStandAlone(String code) {
        String body = code.replaceAll("(?m)" + HEAD.pattern(), "");
        Matcher call = CALL.matcher(body);
        while (call.find()) {
            String inside = inBrackets(body, call.end());
            Due.is("rule 10: a call in " + call.group() + inside + ")", CALL.matcher(inside).find(), false);
        }
    }

    private static String inBrackets(String text, int from) {
        int open = 1;
        int at = from;
        while (at < text.length() && open > 0) {
            open += text.charAt(at) == '(' ? 1 : text.charAt(at) == ')' ? -1 : 0;
            at++;
        }
        return text.substring(from, at - 1);
    }

    private static void methodsAreShort(Map<String, String> bodies) {
        for (Map.Entry<String, String> method : bodies.entrySet()) {
            long lines = method.getValue().lines().count() + 2;
            Due.holds("rule 10: lines of " + method.getKey() + ": " + lines, lines <= MOST_LINES);
        }
    }

    private static void callsGoSixDeep(Map<String, String> bodies) {
        for (String method : bodies.keySet()) {
            int deep = depth(method, bodies, 1);
            Due.holds("rules 8 and 10: calls from " + method + " go " + deep + " deep", deep <= MOST_DEEP);
        }
    }

    /** How deep calls go from a method on that is so deep itself; one that calls itself goes too deep as well. */
    private static int depth(String method, Map<String, String> bodies, int own) {
        int deepest = own;
        Matcher call = CALL.matcher(bodies.get(method));
        while (own <= MOST_DEEP && call.find()) {
            Due.holds("rule 3: " + call.group(1) + " is a method of the class", bodies.containsKey(call.group(1)));
            deepest = Math.max(deepest, depth(call.group(1), bodies, own + 1));
        }
        return deepest;
    }
}
