import java.io.IOException;
import java.lang.reflect.Method;
import java.lang.reflect.Modifier;
import java.nio.file.Files;
import java.nio.file.Path;
import java.util.ArrayList;
import java.util.List;
import java.util.Set;
import java.util.TreeSet;
import java.util.regex.Matcher;
import java.util.regex.Pattern;
import java.util.stream.Stream;

/** That README.md's words hold: its calls answer as it says, its commands work, and what it names is there. */
public final class ReadmeTest {
    private static final Pattern MADE =
        Pattern.compile("DisjointPaths x = new DisjointPaths\\((\\d+)\\); +// vertices 0 to (\\d+), no edge, .*");
    private static final Pattern SHOWN =
        Pattern.compile("x\\.(\\w+)\\(((?:\\d+(?:, \\d+)*)?)\\); +// (-?\\d+|true|false|[A-Z_]+)(?:: .*)?");
    private static final Pattern ROW = Pattern.compile("(?m)^\\| `(\\w+)\\(([^)]*)\\)` \\|");
    private static final Pattern CODE_WORD = Pattern.compile("`([A-Z_]+)`\\s+\\((-?\\d+)\\)");
    private static final Pattern TEST_NAME = Pattern.compile("`(\\w+Test)`");
    private static final Pattern PLACE = Pattern.compile("`((?:src|\\.\\./shared)/[\\w./]+|\\.\\./shared|\\.ci/run)`");

    public static void main(String[] args) throws IOException, InterruptedException, ReflectiveOperationException {
        String readme = Files.readString(Path.of("README.md"));
        shownCallsAnswerAsShown(readme);
        theTableHasEveryCall(readme);
        codesAreThoseOfTheClass(readme);
        whatIsNamedIsThere(readme);
        commandsWork(readme);
        Due.end();
    }

    private static void shownCallsAnswerAsShown(String readme) throws ReflectiveOperationException {
        List<String> lines = linesOf(readme, "java");
        Matcher made = MADE.matcher(lines.get(0));
        Due.holds("the first line makes an object: " + lines.get(0), made.matches());
        DisjointPaths x = new DisjointPaths(Integer.parseInt(made.group(1)));
        Due.is("the last vertex", x.vertices() - 1, Integer.parseInt(made.group(2)));
        Set<String> shown = new TreeSet<>();
        for (String line : lines.subList(1, lines.size())) {
            Matcher call = SHOWN.matcher(line);
            if (call.matches()) {
                Due.is(line, answer(x, call.group(1), call.group(2)), meaning(call.group(3)));
                shown.add(call.group(1));
            } else {
                Due.is("the line " + line, "not understood", "a call and its answer");
            }
        }
        Due.is("the methods that are shown", shown.toString(), methodNames().toString());
    }

    private static String answer(DisjointPaths x, String name, String list) throws ReflectiveOperationException {
        List<Object> numbers = new ArrayList<>();
        for (String number : list.isEmpty() ? new String[0] : list.split(", ")) {
            numbers.add(Integer.parseInt(number));
        }
        return String.valueOf(method(name).invoke(x, numbers.toArray()));
    }

    private static String meaning(String word) throws ReflectiveOperationException {
        boolean constant = Character.isUpperCase(word.charAt(0));
        return constant ? String.valueOf(DisjointPaths.class.getField(word).getInt(null)) : word;
    }

    private static void theTableHasEveryCall(String readme) throws ReflectiveOperationException {
        Set<String> named = new TreeSet<>();
        Matcher row = ROW.matcher(readme);
        while (row.find()) {
            named.add(row.group(1));
            int arguments = row.group(2).isEmpty() ? 0 : row.group(2).split(", ").length;
            Due.is("arguments of " + row.group(1), arguments, method(row.group(1)).getParameterCount());
        }
        Due.is("the methods in the table", named.toString(), methodNames().toString());
        Due.holds("the constructor is in the table", readme.contains("| `new DisjointPaths(vertices)` |"));
    }

    private static void codesAreThoseOfTheClass(String readme) throws ReflectiveOperationException {
        Set<String> named = new TreeSet<>();
        Matcher code = CODE_WORD.matcher(readme);
        while (code.find()) {
            named.add(code.group(1));
            Due.is(code.group(1), code.group(2), meaning(code.group(1)));
        }
        Due.is("the codes that are told", named.toString(), "[BAD_ARG, NONE]");
    }

    private static void whatIsNamedIsThere(String readme) throws IOException {
        Set<String> there = new TreeSet<>();
        try (Stream<Path> files = Files.list(Path.of("src/test/java"))) {
            files.forEach(file -> there.add(file.getFileName().toString().replace(".java", "")));
        }
        Due.is("the tests that are named", allOf(TEST_NAME, readme).toString(), there.toString());
        Set<String> places = allOf(PLACE, readme);
        Due.holds("places are named", places.contains(".ci/run") && places.contains("src/test/support"));
        for (String place : places) {
            Due.holds(place + " is there", Files.exists(Path.of(place)));
        }
        Due.holds(".ci/run can be run", Files.isExecutable(Path.of(".ci/run")));
    }

    private static void commandsWork(String readme) throws IOException, InterruptedException {
        List<String> commands = linesOf(readme, "sh");
        // It is what runs this test; CiRunTest tries it with other tests than this one.
        Due.holds("the command .ci/run is shown", commands.remove(".ci/run"));
        Due.holds("other commands are shown", commands.size() > 1);
        try (Sandbox sandbox = new Sandbox()) {
            sandbox.copy("src");
            sandbox.copy("../shared");
            for (String command : commands) {
                int code = sandbox.run(command);
                Due.is(command + ": " + sandbox.printed() + ": exit code", code, 0);
            }
        }
    }

    /** The lines of all blocks of a language. */
    private static List<String> linesOf(String readme, String language) {
        List<String> lines = new ArrayList<>();
        Matcher block = Pattern.compile("(?s)```" + language + "\n(.*?)\n```").matcher(readme);
        while (block.find()) {
            lines.addAll(block.group(1).lines().toList());
        }
        return lines;
    }

    private static Set<String> allOf(Pattern pattern, String text) {
        Set<String> all = new TreeSet<>();
        Matcher found = pattern.matcher(text);
        while (found.find()) {
            all.add(found.group(1));
        }
        return all;
    }

    private static Set<String> methodNames() {
        Set<String> names = new TreeSet<>();
        for (Method m : DisjointPaths.class.getDeclaredMethods()) {
            if (Modifier.isPublic(m.getModifiers())) {
                names.add(m.getName());
            }
        }
        return names;
    }

    private static Method method(String name) throws NoSuchMethodException {
        for (Method m : DisjointPaths.class.getDeclaredMethods()) {
            if (Modifier.isPublic(m.getModifiers()) && m.getName().equals(name)) {
                return m;
            }
        }
        throw new NoSuchMethodException(name);
    }
}
