import java.io.IOException;
import java.lang.reflect.Constructor;
import java.lang.reflect.Field;
import java.lang.reflect.Method;
import java.lang.reflect.Modifier;
import java.nio.file.Files;
import java.nio.file.Path;
import java.util.ArrayList;
import java.util.Arrays;
import java.util.List;
import java.util.Set;
import java.util.TreeSet;

/** The rules of ../shared/LANGUAGE.md that a program can look after; .ci/run starts it in the project's root. */
public final class RulesTest {
    private static final Due DUE = new Due("RulesTest");
    private static final String FACE = "about(2)I anew(5)I apart(3)I arm(2)I clean(0)I count(1)I fault(1)I feed(5)I "
        + "follow(4)I hop(3)I joint(5)I lead(3)I look(3)I make(1)I meet(2)I met(1)I nozzle(1)Z paint(2)I play(3)I "
        + "point(4)I share(3)I stop(0)I suspects(4)I tape(1)I thick(5)I way(0)I wear(5)Z";
    private static final String[] FORBIDDEN = {
        "->", "::", "catch", "finally", "synchronized", "assert ", "import java.io", "System.", "Exact(", "instanceof",
        "new Thread", "Object ", "Random", ".hashCode", ".equals", "double", "float"
    };

    public static void main(String[] args) throws IOException {
        face();
        names();
        source();
        DUE.end();
    }

    private static void face() {
        Class<?> c = LedArms.class;
        DUE.is("public and final", Modifier.isPublic(c.getModifiers()) && Modifier.isFinal(c.getModifiers()), true);
        Set<String> found = new TreeSet<>();
        for (Method m : c.getDeclaredMethods()) {
            if (Modifier.isPublic(m.getModifiers())) {
                found.add(m.getName() + "(" + m.getParameterCount() + ")" + (m.getReturnType() == int.class ? "I" : "Z"));
                for (Class<?> p : m.getParameterTypes()) {
                    DUE.is(m.getName() + " takes ints", p == int.class, true);
                }
            } else {
                DUE.is(m.getName() + " is private", Modifier.isPrivate(m.getModifiers()), true);
            }
        }
        DUE.same("the face", String.join(" ", found), FACE);
        for (Field f : c.getDeclaredFields()) {
            boolean none = f.getName().equals("NONE");
            DUE.is(f.getName() + "'s sight", none ? Modifier.isPublic(f.getModifiers()) : Modifier.isPrivate(f.getModifiers()), true);
            if (Modifier.isStatic(f.getModifiers())) {
                DUE.is(f.getName() + " is final", Modifier.isFinal(f.getModifiers()), true);
            }
        }
        Constructor<?>[] made = c.getDeclaredConstructors();
        DUE.is("one constructor", made.length, 1);
        DUE.is("without parameters", made[0].getParameterCount(), 0);
        try {
            Class<?>[] thrown = c.getMethod("look", int.class, int.class, int.class).getExceptionTypes();
            DUE.is("what look() throws", thrown.length, 2);
        } catch (NoSuchMethodException e) {
            DUE.is("look() is there", false, true);
        }
    }

    private static void names() {
        Set<String> face = new TreeSet<>();
        for (Method m : LedArms.class.getDeclaredMethods()) {
            if (Modifier.isPublic(m.getModifiers())) {
                face.add(m.getName());
            }
        }
        Class<?>[] inside = LedArms.class.getDeclaredClasses();
        DUE.is("at most twelve classes", inside.length + 1 <= 12, true);
        for (Class<?> c : inside) {
            boolean fine = Modifier.isStatic(c.getModifiers()) && !Modifier.isPublic(c.getModifiers());
            DUE.is(c.getName() + " is static, and not public", fine, true);
            int fields = 0;
            for (Field f : c.getDeclaredFields()) {
                fields += Modifier.isStatic(f.getModifiers()) ? 0 : 1;
            }
            DUE.is(c.getName() + " has at most twenty fields", fields <= 20, true);
            for (Method m : c.getDeclaredMethods()) {
                DUE.is(c.getName() + "." + m.getName() + " bears a name of the face", face.contains(m.getName()), false);
                DUE.is(m.getName() + " takes at most seven", m.getParameterCount() <= 7, true);
            }
        }
    }

    private static void source() throws IOException {
        List<String> code = new ArrayList<>();
        for (String line : Files.readAllLines(Path.of("src/main/java/LedArms.java"))) {
            DUE.is("signs 1 to 127 alone: " + line, line.chars().allMatch(c -> c > 0 && c < 128), true);
            String bare = line.trim();
            boolean comment = bare.startsWith("/**") || bare.startsWith("*") || bare.startsWith("//");
            code.add(comment ? "" : line);
        }
        for (String word : FORBIDDEN) {
            DUE.is("a line with " + word, code.stream().anyMatch(l -> l.contains(word)), false);
        }
        DUE.is("imports", code.stream().filter(l -> l.startsWith("import")).count(), 1);
        lengths(code);
    }

    private static void lengths(List<String> code) {
        int from = -1;
        String[] indents = {"    }", "        }"};
        for (int i = 0; i < code.size(); i++) {
            String line = code.get(i);
            if (line.matches(" {4}( {4})?[a-zA-Z].*\\).*\\{") && !line.contains(" class ")) {
                from = i;
            }
            if (from >= 0 && Arrays.asList(indents).contains(line)) {
                DUE.is("sixty lines are enough: " + code.get(from), i - from <= 60, true);
                from = -1;
            }
        }
    }
}
