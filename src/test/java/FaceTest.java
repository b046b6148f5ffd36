import java.lang.reflect.Constructor;
import java.lang.reflect.Field;
import java.lang.reflect.Method;
import java.lang.reflect.Modifier;
import java.util.Arrays;
import java.util.HashSet;
import java.util.List;
import java.util.Set;
import java.util.TreeSet;

/** The public face, and what the compiled class tells of the rules of LANGUAGE.md. */
public final class FaceTest {
    private static final List<String> FACE = List.of(
        "int BAD_ARG", "int NONE", "new(int)",
        "int vertices()", "int edge(int, int, int)", "boolean joined(int, int)", "int ends(int, int)",
        "int paths()", "int cutSize()", "int firstCut()", "int cutWith(int)", "int loss(int)",
        "int tightEdges()", "int helpfulEdges()", "int distance()", "int strength()", "int clear()");
    private static final Set<Class<?>> TYPES = Set.of(
        int.class, long.class, short.class, byte.class, char.class, boolean.class, void.class,
        int[].class, long[].class, short[].class, byte[].class, char[].class, boolean[].class);

    public static void main(String[] args) {
        Class<?> c = DisjointPaths.class;
        Due.holds("public and final", Modifier.isPublic(c.getModifiers()) && Modifier.isFinal(c.getModifiers()));
        Due.holds("no nested class", c.getDeclaredClasses().length == 0);
        Set<String> face = new TreeSet<>();
        Set<String> publicNames = new HashSet<>();
        Set<String> privateNames = new HashSet<>();
        for (Field f : c.getDeclaredFields()) {
            checkField(f, face);
        }
        for (Constructor<?> k : c.getDeclaredConstructors()) {
            face.add("new" + inBrackets(k.getParameterTypes()));
            Due.holds("rule 1: the constructor is public", Modifier.isPublic(k.getModifiers()));
        }
        for (Method m : c.getDeclaredMethods()) {
            checkMethod(m, face);
            (Modifier.isPublic(m.getModifiers()) ? publicNames : privateNames).add(m.getName());
        }
        Due.holds("the face is " + face, face.equals(new TreeSet<>(FACE)));
        privateNames.retainAll(publicNames);
        Due.holds("rule 1: both private and public: " + privateNames, privateNames.isEmpty());
        Due.end();
    }

    private static void checkField(Field f, Set<String> face) {
        int how = f.getModifiers();
        Due.holds("rule 2: type of " + f, TYPES.contains(f.getType()));
        if (Modifier.isStatic(how)) {
            boolean number = f.getType() == int.class || f.getType() == long.class;
            Due.holds("rule 5: static field " + f, number && Modifier.isFinal(how));
        }
        if (Modifier.isPublic(how)) {
            Due.holds("public field that is no constant: " + f, Modifier.isStatic(how));
            face.add(f.getType() + " " + f.getName());
        } else {
            Due.holds("rule 1: neither public nor private: " + f, Modifier.isPrivate(how));
        }
    }

    private static void checkMethod(Method m, Set<String> face) {
        int how = m.getModifiers();
        Due.holds("rule 2: answer of " + m, TYPES.contains(m.getReturnType()));
        Due.holds("rule 4: an array is answered by " + m, !m.getReturnType().isArray());
        Due.holds("rule 2: parameters of " + m, TYPES.containsAll(Arrays.asList(m.getParameterTypes())));
        Due.holds("rule 10: parameters of " + m, m.getParameterCount() <= 7);
        if (Modifier.isPublic(how)) {
            Due.holds("public method that is static: " + m, !Modifier.isStatic(how));
            face.add(m.getReturnType() + " " + m.getName() + inBrackets(m.getParameterTypes()));
        } else {
            Due.holds("rule 1: neither public nor private: " + m, Modifier.isPrivate(how));
        }
    }

    private static String inBrackets(Class<?>[] types) {
        StringBuilder text = new StringBuilder("(");
        for (int i = 0; i < types.length; i++) {
            text.append(i == 0 ? "" : ", ").append(types[i]);
        }
        return text.append(")").toString();
    }
}
