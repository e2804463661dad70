import java.lang.reflect.Method;
import java.nio.file.Files;
import java.nio.file.Path;
import java.util.List;
import java.util.regex.Matcher;
import java.util.regex.Pattern;

/** The calls that README.md shows answer what it says. */
public final class ReadmeTest {
    private static final Pattern CALL = Pattern.compile("x\\.(\\w+)\\(([^)]*)\\);\\s*// (-?\\d+)(:.*)?");
    private static final Pattern TAPE = Pattern.compile("tape\\(x, \"(.*)\"\\);");
    private static final int FEWEST = 40;

    private static GiftDuel x = new GiftDuel();
    private static int calls = 0;

    public static void main(String[] args) throws Exception {
        boolean code = false;
        boolean shown = false;
        for (String line : Files.readAllLines(Path.of("README.md"))) {
            if (line.startsWith("```")) {
                code = !code && line.equals("```java");
                shown = false;
            } else if (code) {
                shown |= line.startsWith("static ");
                if (!shown && !line.isEmpty()) {
                    run(line);
                }
            }
        }
        Check.holds("README.md shows its calls", calls >= FEWEST);
        tapes();
        Check.finish("ReadmeTest");
    }

    private static void run(String line) throws Exception {
        Matcher call = CALL.matcher(line);
        Matcher tape = TAPE.matcher(line);
        if (line.endsWith("x = new GiftDuel();")) {
            x = new GiftDuel();
        } else if (tape.matches()) {
            tape(x, tape.group(1));
        } else {
            Check.holds("README.md: this can be read: " + line, call.matches());
            if (call.matches()) {
                calls++;
                Check.due("README.md: " + line, answer(call.group(1), call.group(2)), Long.parseLong(call.group(3)));
            }
        }
    }

    private static int answer(String name, String numbers) throws Exception {
        String[] parts = numbers.isEmpty() ? new String[0] : numbers.split(", ");
        Object[] given = new Object[parts.length];
        for (int i = 0; i < parts.length; i++) {
            given[i] = Integer.parseInt(parts[i]);
        }
        for (Method m : GiftDuel.class.getMethods()) {
            if (m.getName().equals(name) && m.getParameterCount() == given.length) {
                return (Integer) m.invoke(x, given);
            }
        }
        Check.holds("there is a call " + name, false);
        return 0;
    }

    /** Just as README.md writes it. */
    static void tape(GiftDuel x, String text) {
        x.end(0);
        int[] four = new int[5];
        for (int i = 0; i < (text.length() + 19) / 20 * 20; i++) {
            int sign = i < text.length() ? text.charAt(i) & 255 : ' ';
            four[i % 20 / 4] = four[i % 20 / 4] << 8 | sign;
            if (i % 20 == 19) {
                x.feed(four[0], four[1], four[2], four[3], four[4]);
            }
        }
        x.end(text.length());
    }

    /** README.md and this file have the same tape(), and it puts as many bytes there as the text has. */
    private static void tapes() throws Exception {
        String readme = String.join("\n", Files.readAllLines(Path.of("README.md")));
        List<String> own = Files.readAllLines(Path.of("src/test/java/ReadmeTest.java"));
        int from = 0;
        while (!own.get(from).startsWith("    static void tape(")) {
            from++;
        }
        int to = from;
        while (!own.get(to).equals("    }")) {
            to++;
        }
        StringBuilder written = new StringBuilder();
        for (String line : own.subList(from, to + 1)) {
            written.append(line.substring(4)).append('\n');
        }
        Check.holds("README.md has tape() as it is here", readme.contains(written));
        for (int length : new int[] {0, 1, 19, 20, 21, 399, 400}) {
            tape(x, " ".repeat(length));
            Check.due("a tape of " + length, x.count(7), length);
        }
    }
}
