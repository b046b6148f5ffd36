import java.lang.reflect.Constructor;
import java.lang.reflect.Field;
import java.lang.reflect.Method;
import java.lang.reflect.Modifier;
import java.nio.file.Files;
import java.nio.file.Path;
import java.util.Arrays;
import java.util.HashSet;
import java.util.List;
import java.util.Set;
import java.util.TreeSet;
import java.util.regex.Matcher;
import java.util.regex.Pattern;

/** The public face, and what can be seen of the rules of LANGUAGE.md from the class and its source. */
public final class FaceTest {
    private static final Path SOURCE = Path.of("src/main/java/DisjointPaths.java");
    private static final List<String> FACE = List.of(
        "int BAD_ARG", "int NONE", "new(int)",
        "int vertices()", "int edge(int, int, int)", "boolean joined(int, int)", "int ends(int, int)",
        "int paths()", "int cutSize()", "int firstCut()", "int cutWith(int)", "int loss(int)",
        "int tightEdges()", "int helpfulEdges()", "int distance()", "int strength()", "int clear()");
    private static final Set<Class<?>> TYPES = Set.of(
        int.class, long.class, short.class, byte.class, char.class, boolean.class, void.class,
        int[].class, long[].class, short[].class, byte[].class, char[].class, boolean[].class);
    private static final String FORBIDDEN_WORDS =
        "\\b(package|import|float|double|throw|throws|try|catch|finally|synchronized|assert|instanceof|null"
        + "|interface|enum|record|extends|implements|static\\s*\\{"
        + "|String|Math|Integer|Long|System|Arrays|Object|getClass|hashCode|equals|toString)\\b|->|::|\"";

    private static int wrong = 0;

    public static void main(String[] args) throws Exception {
        Class<?> c = DisjointPaths.class;
        check(Modifier.isPublic(c.getModifiers()) && Modifier.isFinal(c.getModifiers()), "public and final");
        check(c.getDeclaredClasses().length == 0, "no nested class");
        Set<String> face = new TreeSet<>();
        Set<String> publicNames = new HashSet<>();
        Set<String> privateNames = new HashSet<>();
        for (Field f : c.getDeclaredFields()) {
            checkField(f, face);
        }
        for (Constructor<?> k : c.getDeclaredConstructors()) {
            face.add("new" + inBrackets(k.getParameterTypes()));
            check(Modifier.isPublic(k.getModifiers()), "rule 1: the constructor is public");
        }
        for (Method m : c.getDeclaredMethods()) {
            checkMethod(m, face);
            (Modifier.isPublic(m.getModifiers()) ? publicNames : privateNames).add(m.getName());
        }
        check(face.equals(new TreeSet<>(FACE)), "the face is " + face);
        privateNames.retainAll(publicNames);
        check(privateNames.isEmpty(), "rule 1: both private and public: " + privateNames);
        checkSource();
        System.out.println(wrong == 0 ? "the face is as due" : wrong + " things are not as due");
        if (wrong != 0) {
            System.exit(1);
        }
    }

    private static void checkField(Field f, Set<String> face) {
        int how = f.getModifiers();
        check(TYPES.contains(f.getType()), "rule 2: type of " + f);
        if (Modifier.isStatic(how)) {
            boolean number = f.getType() == int.class || f.getType() == long.class;
            check(number && Modifier.isFinal(how), "rule 5: static field " + f);
        }
        if (Modifier.isPublic(how)) {
            check(Modifier.isStatic(how), "public field that is no constant: " + f);
            face.add(f.getType() + " " + f.getName());
        } else {
            check(Modifier.isPrivate(how), "rule 1: neither public nor private: " + f);
        }
    }

    private static void checkMethod(Method m, Set<String> face) {
        int how = m.getModifiers();
        check(TYPES.contains(m.getReturnType()), "rule 2: answer of " + m);
        check(!m.getReturnType().isArray(), "rule 4: an array is answered by " + m);
        check(TYPES.containsAll(Arrays.asList(m.getParameterTypes())), "rule 2: parameters of " + m);
        check(m.getParameterCount() <= 7, "rule 10: parameters of " + m);
        if (Modifier.isPublic(how)) {
            check(!Modifier.isStatic(how), "public method that is static: " + m);
            face.add(m.getReturnType() + " " + m.getName() + inBrackets(m.getParameterTypes()));
        } else {
            check(Modifier.isPrivate(how), "rule 1: neither public nor private: " + m);
        }
    }

    private static void checkSource() throws Exception {
        String code = Files.readString(SOURCE).replaceAll("(?s)/\\*.*?\\*/", " ").replaceAll("//[^\n]*", " ");
        Matcher word = Pattern.compile(FORBIDDEN_WORDS).matcher(code);
        while (word.find()) {
            check(false, "LANGUAGE.md rules out: " + word.group());
        }
        Matcher made = Pattern.compile("(?m)^.*\\bnew\\b.*$").matcher(code);
        while (made.find()) {
            boolean field = made.group().matches("    private final \\w+\\[\\] \\w+ = new \\w+\\[\\w+\\];");
            check(field, "rule 4: made elsewhere than in a field's initialiser: " + made.group());
        }
    }

    private static String inBrackets(Class<?>[] types) {
        StringBuilder text = new StringBuilder("(");
        for (int i = 0; i < types.length; i++) {
            text.append(i == 0 ? "" : ", ").append(types[i]);
        }
        return text.append(")").toString();
    }

    private static void check(boolean holds, String what) {
        if (!holds) {
            wrong++;
            System.out.println("not as due: " + what);
        }
    }
}
