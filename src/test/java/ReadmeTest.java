import java.lang.reflect.Method;
import java.nio.charset.StandardCharsets;
import java.nio.file.Files;
import java.nio.file.Path;
import java.util.regex.Matcher;
import java.util.regex.Pattern;

/** Runs the calls that README.md shows: each must answer what stands behind it. */
public final class ReadmeTest extends Checks {
    private static final Pattern BLOCK = Pattern.compile("(?s)```java\n(.*?)```");
    private static final Pattern CALL = Pattern.compile("x\\.(\\w+)\\(([^)]*)\\);\\s*// (-?\\d+).*");
    private static final Pattern TOLD = Pattern.compile("tell\\(x, \"([^\"]*)\"\\);\\s*// (-?\\d+).*");

    /** Tells a text of at most 400 bytes: how many things there are, or -2 less its fault. */
    static int tell(LetterThrough x, String text) {
        x.end(0);
        for (int from = 0; from < text.length(); from += 20) {
            int[] n = new int[5];
            for (int i = 0; i < 20; i++) {
                n[i / 4] = n[i / 4] << 8 | (from + i < text.length() ? text.charAt(from + i) & 255 : 0);
            }
            x.feed(n[0], n[1], n[2], n[3], n[4]);
        }
        x.end(text.length());
        return x.land();
    }

    private static Object argument(String text, Class<?> type) {
        if (type == boolean.class) {
            return Boolean.valueOf(text.strip());
        }
        return Integer.decode(text.strip());
    }

    private static long answer(LetterThrough x, String name, String arguments) throws ReflectiveOperationException {
        String[] texts = arguments.isBlank() ? new String[0] : arguments.split(",");
        for (Method m : LetterThrough.class.getMethods()) {
            if (m.getName().equals(name) && m.getParameterCount() == texts.length) {
                Object[] given = new Object[texts.length];
                for (int i = 0; i < texts.length; i++) {
                    given[i] = argument(texts[i], m.getParameterTypes()[i]);
                }
                return ((Number) m.invoke(x, given)).longValue();
            }
        }
        throw new NoSuchMethodException(name + " of " + texts.length);
    }

    private static void line(LetterThrough x, String line) throws ReflectiveOperationException {
        Matcher call = CALL.matcher(line);
        Matcher told = TOLD.matcher(line);
        if (call.matches()) {
            is(line, answer(x, call.group(1), call.group(2)), Long.parseLong(call.group(3)));
        } else if (told.matches()) {
            is(line, tell(x, told.group(1)), Long.parseLong(told.group(2)));
        } else {
            is("understood: " + line, line.isBlank() || line.startsWith("//"));
        }
    }

    private static String flat(String text) {
        return text.replaceAll("\\s+", " ").strip();
    }

    public static void main(String[] args) throws Exception {
        about = "README.md";
        String own = flat(Files.readString(Path.of("src/test/java/ReadmeTest.java"), StandardCharsets.UTF_8));
        Matcher block = BLOCK.matcher(Files.readString(Path.of("README.md"), StandardCharsets.UTF_8));
        int shown = 0;
        while (block.find()) {
            String code = block.group(1);
            if (!code.startsWith("LetterThrough x = new LetterThrough();\n")) {
                is("the helper is the one that is used here", own.contains(flat(code)));
                continue;
            }
            LetterThrough x = new LetterThrough();
            for (String line : code.substring(code.indexOf('\n') + 1).split("\n")) {
                line(x, line);
                shown++;
            }
        }
        is("calls are shown", shown > 30);
        System.out.println(passed + " passed, " + failed + " failed");
        if (failed != 0) {
            System.exit(1);
        }
    }
}
