import java.io.IOException;
import java.lang.reflect.Method;
import java.nio.charset.StandardCharsets;
import java.nio.file.Files;
import java.nio.file.Path;
import java.util.HashSet;
import java.util.Set;
import java.util.regex.Matcher;
import java.util.regex.Pattern;

/** Carries out the example of README.md, line by line. */
public final class ReadmeTests {
    private static final Checks CHECKS = new Checks();
    private static final Pattern CALL =
            Pattern.compile("x\\.(\\w+)\\(([^)]*)\\);( +// (-?\\d+|true|false)(:.*)?)?");
    private static final Pattern TEXT = Pattern.compile("put\\(x, \"([^\"]*)\"\\);");
    private static final Pattern BYTES = Pattern.compile("put\\(x, new byte\\[\\] \\{([^}]*)\\}\\);");

    private static QueenBelt x = new QueenBelt();

    // It stands in README.md word for word.
    static void put(QueenBelt x, byte[] bytes) {
        x.end(0);
        for (int i = 0; i < bytes.length; i += 20) {
            int[] five = new int[5];
            for (int k = 0; k < 20; k++) {
                five[k / 4] = five[k / 4] << 8 | (i + k < bytes.length ? bytes[i + k] & 255 : 0);
            }
            x.feed(five[0], five[1], five[2], five[3], five[4]);
        }
        x.end(bytes.length);
    }

    private static String[] blocks(String readme) {
        String[] parts = readme.split("```java\n");
        for (int i = 0; i < parts.length; i++) {
            parts[i] = parts[i].split("```")[0];
        }
        return parts;
    }

    private static byte[] bytes(String numbers) {
        String[] parts = numbers.split(", ");
        byte[] all = new byte[parts.length];
        for (int i = 0; i < all.length; i++) {
            all[i] = (byte) Integer.parseInt(parts[i]);
        }
        return all;
    }

    private static String call(String name, String told) throws ReflectiveOperationException {
        String[] parts = told.isEmpty() ? new String[0] : told.split(", ");
        for (Method method : QueenBelt.class.getMethods()) {
            if (!method.getName().equals(name) || method.getParameterCount() != parts.length) {
                continue;
            }
            Object[] values = new Object[parts.length];
            for (int i = 0; i < parts.length; i++) {
                boolean truth = method.getParameterTypes()[i] == boolean.class;
                values[i] = truth ? (Object) Boolean.valueOf(parts[i]) : Integer.valueOf(parts[i]);
            }
            return String.valueOf(method.invoke(x, values));
        }
        return "no such call";
    }

    private static void line(String line, Set<String> seen) throws ReflectiveOperationException {
        Matcher text = TEXT.matcher(line);
        Matcher bytes = BYTES.matcher(line);
        Matcher call = CALL.matcher(line);
        if (line.equals("QueenBelt x = new QueenBelt();")) {
            x = new QueenBelt();
        } else if (text.matches()) {
            put(x, text.group(1).getBytes(StandardCharsets.ISO_8859_1));
        } else if (bytes.matches()) {
            put(x, bytes(bytes.group(1)));
        } else if (call.matches() && call.group(4) != null) {
            seen.add(call.group(1));
            CHECKS.same(line, call(call.group(1), call.group(2)), call.group(4));
        } else {
            CHECKS.due("a line that is understood: " + line, line.isEmpty() || line.startsWith("// "),
                    true);
        }
    }

    public static void main(String[] args) throws IOException, ReflectiveOperationException {
        String[] blocks = blocks(Files.readString(Path.of("README.md")));
        CHECKS.due("blocks of code", blocks.length - 1, 2);
        String own = Files.readString(Path.of("src/test/java/ReadmeTests.java"));
        CHECKS.due("put is as it stands here", own.contains(blocks[1].indent(4)), true);
        Set<String> seen = new HashSet<>(Set.of("feed", "end"));
        for (String line : blocks[2].split("\n")) {
            line(line, seen);
        }
        CHECKS.due("calls that are shown", seen.size(), 28);
        CHECKS.end();
    }
}
