import java.lang.reflect.Constructor;
import java.lang.reflect.Field;
import java.lang.reflect.Method;
import java.lang.reflect.Modifier;
import java.nio.file.Files;
import java.nio.file.Path;
import java.util.ArrayList;
import java.util.List;
import java.util.Set;
import java.util.TreeSet;
import java.util.regex.Matcher;
import java.util.regex.Pattern;

/** The rules of LANGUAGE.md that can be seen in the source or in the class file: no more than these forbid. */
public final class RulesTest {
    /** "Some" twelve classes, twenty fields, sixty lines. */
    private static final int MOST_CLASSES = 13;
    private static final int MOST_FIELDS = 22;
    private static final int MOST_LINES = 64;
    private static final Set<Class<?>> CONSTANTS = Set.of(int.class, long.class, boolean.class, char.class,
            String.class, int[].class, long[].class, char[].class, byte[].class);
    private static final String FACE = "lord(2) of(2) put(3) good(3) at(2) terms(2) feed(5) end(1) row(0) dross(0) "
            + "law(0) orders(0) fault(0) stopped(0) force(1) asks(3) give(2) await(0) undo(0) debt(3) owed(2) duel(3) "
            + "ruin(2) siege(4) herald(1) tells(2) bribe(3) road(4) way(3) ring(1) shelf(2) found(2) beats(3) "
            + "generation(2) drawn(2) image(1) back(1) count(1) status(0)";

    public static void main(String[] args) throws Exception {
        face();
        classes();
        source(Files.readString(Path.of("src/main/java/GiftDuel.java")));
        Check.finish("RulesTest");
    }

    private static void face() {
        Check.holds("public and final", Modifier.isPublic(GiftDuel.class.getModifiers())
                && Modifier.isFinal(GiftDuel.class.getModifiers()));
        Set<String> seen = new TreeSet<>();
        for (Method m : GiftDuel.class.getDeclaredMethods()) {
            if (m.isSynthetic()) {
                continue;
            }
            if (Modifier.isPublic(m.getModifiers())) {
                Check.holds(m + " answers an int of ints", m.getReturnType() == int.class
                        && !Modifier.isStatic(m.getModifiers()) && List.of(m.getParameterTypes()).stream()
                        .allMatch(t -> t == int.class));
                seen.add(m.getName() + "(" + m.getParameterCount() + ")");
            } else {
                Check.holds(m + " is private", Modifier.isPrivate(m.getModifiers()));
            }
        }
        Check.holds("methods of the face", seen.equals(new TreeSet<>(List.of(FACE.split(" ")))));
        Check.due("constructors", GiftDuel.class.getDeclaredConstructors().length, 1);
        for (Constructor<?> c : GiftDuel.class.getConstructors()) {
            Check.due("constructor's parameters", c.getParameterCount(), 0);
        }
        for (Field f : GiftDuel.class.getDeclaredFields()) {
            boolean none = f.getName().equals("NONE");
            Check.holds("field " + f.getName(), none ? f.getModifiers() == (Modifier.PUBLIC | Modifier.STATIC
                    | Modifier.FINAL) : Modifier.isPrivate(f.getModifiers()));
        }
    }

    private static void classes() {
        Class<?>[] inside = GiftDuel.class.getDeclaredClasses();
        Check.holds("some twelve classes", inside.length + 1 <= MOST_CLASSES);
        Set<String> face = new TreeSet<>();
        for (String name : FACE.split(" ")) {
            face.add(name.substring(0, name.indexOf('(')));
        }
        List<Class<?>> all = new ArrayList<>(List.of(inside));
        all.add(GiftDuel.class);
        for (Class<?> c : all) {
            Check.holds(c + " is static", c == GiftDuel.class || Modifier.isStatic(c.getModifiers()));
            int fields = 0;
            for (Field f : c.getDeclaredFields()) {
                if (f.isSynthetic()) {
                    continue;
                }
                boolean fixed = Modifier.isStatic(f.getModifiers());
                fields += fixed ? 0 : 1;
                Check.holds("static " + f + " is final", !fixed || Modifier.isFinal(f.getModifiers()));
                Check.holds("static " + f + " is a constant", !fixed || f.isEnumConstant()
                        || CONSTANTS.contains(f.getType()));
            }
            Check.holds(c + " has some twenty fields", fields <= MOST_FIELDS);
            for (Method m : c.getDeclaredMethods()) {
                Check.holds(m + " has seven parameters at most", m.getParameterCount() <= 7);
                Check.holds(m + " bears no name of the face", c == GiftDuel.class || !face.contains(m.getName()));
            }
        }
    }

    private static void source(String text) {
        String bare = text.replaceAll("(?s)/\\*.*?\\*/", "").replaceAll("//[^\n]*", "");
        for (String word : List.of("throw", "throws", "try", "catch", "finally", "synchronized", "assert",
                "package", "Object", "System.out", "Random", "Thread", "native", "volatile")) {
            Check.holds("no " + word, !Pattern.compile("\\b" + Pattern.quote(word) + "\\b").matcher(bare).find());
        }
        Check.holds("no lambda", !Pattern.compile("(?<!default)(?<!case [\\w, ]{1,80})\\s*->").matcher(bare).find());
        Check.holds("no method reference", !bare.contains("::"));
        Check.holds("no Exact", !bare.contains("Exact"));
        Check.holds("no texts joined", !Pattern.compile("\"\\s*\\+|\\+\\s*\"").matcher(bare).find());
        Check.holds("signs 1 to 127", text.chars().allMatch(c -> c == '\n' || c >= 32 && c < 127));
        Matcher imports = Pattern.compile("import ([^;]*);").matcher(bare);
        while (imports.find()) {
            Check.holds("import " + imports.group(1), imports.group(1).matches("java\\.util\\.(Arrays|ArrayList|List|Iterator)"));
        }
        Matcher calls = Pattern.compile("\\b(Arrays|System)\\.(\\w+)").matcher(bare);
        Set<String> allowed = Set.of("System.arraycopy", "Arrays.copyOf", "Arrays.copyOfRange", "Arrays.fill");
        while (calls.find()) {
            Check.holds(calls.group(), allowed.contains(calls.group()));
        }
        Check.holds("no constants of Integer, Long", !Pattern.compile("\\b(Integer|Long)\\.M(AX|IN)_VALUE").matcher(bare).find());
        methods(bare);
    }

    /** No method is longer than some sixty lines. */
    private static void methods(String bare) {
        String[] lines = bare.split("\n");
        int from = -1;
        String indent = "";
        for (int i = 0; i < lines.length; i++) {
            Matcher head = Pattern.compile("^( +)[\\w\\[\\] ]+\\(.*\\{$").matcher(lines[i]);
            if (from < 0 && head.matches() && !lines[i].contains(" class ") && !lines[i].trim().startsWith("if")) {
                from = i;
                indent = head.group(1);
            } else if (from >= 0 && lines[i].equals(indent + "}")) {
                Check.holds("sixty lines: " + lines[from].trim(), i - from + 1 <= MOST_LINES);
                from = -1;
            }
        }
    }
}
