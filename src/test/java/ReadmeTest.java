import java.io.IOException;
import java.lang.reflect.Method;
import java.nio.charset.StandardCharsets;
import java.nio.file.Files;
import java.nio.file.Path;
import java.util.regex.Matcher;
import java.util.regex.Pattern;

/** The example of README.md: each call answers what stands behind it. */
public final class ReadmeTest {
    private static final Pattern CALL = Pattern.compile("x\\.(\\w+)\\(([^)]*)\\);\\s*// (-?\\d+)(:.*)?");
    private static int calls = 0;
    private static int wrong = 0;

    private static void fault(String line, String what) {
        wrong++;
        System.out.println("README.md: " + line + " -- " + what);
    }

    private static Method named(String name) {
        for (Method m : KeptSentences.class.getMethods()) {
            if (m.getName().equals(name) && m.getDeclaringClass() == KeptSentences.class) {
                return m;
            }
        }
        return null;
    }

    private static Object number(String text, Class<?> type) {
        if (type == long.class) {
            return Long.decode(text.replace("L", ""));
        }
        return Integer.decode(text);
    }

    private static void call(KeptSentences x, String line, Matcher parts) throws ReflectiveOperationException {
        Method m = named(parts.group(1));
        String[] texts = parts.group(2).isEmpty() ? new String[0] : parts.group(2).split(", ");
        if (m == null || m.getParameterCount() != texts.length) {
            fault(line, "there is no such call");
            return;
        }
        Object[] values = new Object[texts.length];
        for (int i = 0; i < texts.length; i++) {
            values[i] = number(texts[i], m.getParameterTypes()[i]);
        }
        Object got = m.invoke(x, values);
        calls++;
        if (!got.equals(Integer.valueOf(parts.group(3)))) {
            fault(line, "it answered " + got);
        }
    }

    public static void main(String[] args) throws IOException, ReflectiveOperationException {
        KeptSentences x = new KeptSentences();
        boolean inside = false;
        for (String line : Files.readAllLines(Path.of("README.md"), StandardCharsets.UTF_8)) {
            if (line.startsWith("```")) {
                inside = line.equals("```java");
            } else if (inside && line.startsWith("x.")) {
                Matcher parts = CALL.matcher(line);
                if (parts.matches()) {
                    call(x, line, parts);
                } else {
                    fault(line, "no call with its answer behind it");
                }
            }
        }
        if (calls == 0) {
            fault("", "it has no example");
        }
        System.out.println(wrong == 0 ? calls + " calls of README.md are as told" : wrong + " lines are not as told");
        if (wrong != 0) {
            System.exit(1);
        }
    }
}
