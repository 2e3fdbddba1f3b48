import java.lang.reflect.Method;
import java.lang.reflect.Modifier;
import java.nio.file.Files;
import java.nio.file.Path;
import java.util.HashMap;
import java.util.Map;
import java.util.TreeMap;
import java.util.regex.Matcher;
import java.util.regex.Pattern;

/** The examples of README.md, line by line, on one object: each answers what stands behind it. It is run from the project's folder. */
public final class ReadmeTest {
    private static final Pattern LINE = Pattern.compile("(?:int (\\w+) = )?x\\.(\\w+)\\(([^()]*)\\); *// (-?\\d+): \\S.*");
    private static final String NEW = "HeardWords x = new HeardWords();";

    private static final HeardWords x = new HeardWords();
    private static final Map<String, Method> unused = new TreeMap<>();
    private static final Map<String, Method> methods = new HashMap<>();
    private static final Map<String, Integer> names = new HashMap<>();
    private static int wrong = 0;
    private static int asked = 0;

    public static void main(String[] args) throws Exception {
        for (Method m : HeardWords.class.getDeclaredMethods()) {
            if (Modifier.isPublic(m.getModifiers())) {
                methods.put(m.getName(), m);
                unused.put(m.getName(), m);
            }
        }
        names.put("HeardWords.NONE", HeardWords.NONE);
        boolean inside = false;
        int made = 0;
        for (String line : Files.readString(Path.of("README.md")).split("\r?\n")) {
            if (line.startsWith("```")) {
                inside = line.equals("```java");
            } else if (inside && line.equals(NEW)) {
                made++;
            } else if (inside) {
                ask(line);
            }
        }
        check(made == 1, "README.md makes one object: " + made);
        check(asked <= 512, "at most 512 calls: " + asked);
        check(unused.isEmpty(), "every call has an example; without one: " + unused.keySet());
        System.out.println(wrong == 0 ? "ReadmeTest: all " + asked + " answers are as README.md says" : wrong + " things are not as README.md says");
        if (wrong != 0) {
            System.exit(1);
        }
    }

    private static void check(boolean so, String what) {
        if (!so) {
            wrong++;
            System.out.println("not so: " + what);
        }
    }

    private static void ask(String line) throws Exception {
        Matcher m = LINE.matcher(line);
        if (!m.matches() || !methods.containsKey(m.group(2))) {
            check(false, "a call with its answer: " + line);
            return;
        }
        Method method = methods.get(m.group(2));
        String[] given = m.group(3).isBlank() ? new String[0] : m.group(3).split(" *, *");
        if (given.length != method.getParameterCount()) {
            check(false, "as many numbers as the call takes: " + line);
            return;
        }
        Object[] numbers = new Object[given.length];
        for (int i = 0; i < given.length; i++) {
            numbers[i] = number(given[i]);
        }
        long got = ((Number) method.invoke(x, numbers)).longValue();
        check(got == Long.parseLong(m.group(4)), line + " answered " + got);
        asked++;
        unused.remove(method.getName());
        if (m.group(1) != null) {
            names.put(m.group(1), (int) got);
        }
    }

    private static int number(String text) {
        if (names.containsKey(text)) {
            return names.get(text);
        }
        if (text.matches("'.'")) {
            return text.charAt(1);
        }
        return text.startsWith("0b") ? Integer.parseInt(text.substring(2), 2) : Integer.parseInt(text);
    }
}
