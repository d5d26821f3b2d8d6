import java.lang.reflect.Method;
import java.nio.charset.StandardCharsets;
import java.nio.file.Files;
import java.nio.file.Path;
import java.util.List;
import java.util.regex.Matcher;
import java.util.regex.Pattern;
import java.util.stream.Stream;

/** README.md: each call of its example answers what stands behind it, and it names every call and every test. */
public final class ReadmeTest extends Due {
    static final Pattern TEXT = Pattern.compile("for \\(char letter : \"([^\"]*)\"");
    static final Pattern CALL = Pattern.compile("car\\.(\\w+)\\(([^)]*)\\);\\s*// (-?\\d+).*");

    public static void main(String[] args) throws Exception {
        String page = Files.readString(Path.of("README.md"), StandardCharsets.US_ASCII);
        example(page);
        everyCall(page);
        everyTest(page);
        report("ReadmeTest");
    }

    static void example(String page) throws Exception {
        Matcher text = TEXT.matcher(page);
        due("README: a text", text.find() ? 1 : 0, 1);
        RoofMattress car = new RoofMattress();
        feedAll(car, text.group(1));
        int calls = 0;
        for (String line : page.split("\n")) {
            Matcher m = CALL.matcher(line);
            if (!m.matches()) {
                // the letters are fed in a loop; else a call without its answer would go unseen
                due("README: " + line, line.startsWith("car.") ? 1 : 0, 0);
                continue;
            }
            due("README: " + m.group(1) + "(" + m.group(2) + ")", answer(car, m.group(1), m.group(2)), Integer.parseInt(m.group(3)));
            calls++;
        }
        due("README: an example of calls", calls > 20 ? 1 : 0, 1);
    }

    static int answer(RoofMattress car, String name, String given) throws Exception {
        String[] values = given.isEmpty() ? new String[0] : given.split(", ");
        for (Method m : RoofMattress.class.getMethods()) {
            if (!m.getName().equals(name) || m.getParameterCount() != values.length) continue;
            Object[] all = new Object[values.length];
            for (int i = 0; i < all.length; i++) all[i] = value(values[i], m.getParameterTypes()[i]);
            return (Integer) m.invoke(car, all);
        }
        throw new IllegalStateException("README: no call " + name);
    }

    static Object value(String word, Class<?> type) {
        if (type == boolean.class) return Boolean.valueOf(word);
        return word.equals("NONE") ? Integer.valueOf(NONE) : Integer.valueOf(word);
    }

    static void everyCall(String page) {
        for (Method m : RoofMattress.class.getDeclaredMethods()) {
            if (!java.lang.reflect.Modifier.isPublic(m.getModifiers())) continue;
            due("README names `" + m.getName() + "`", page.contains("`" + m.getName() + "`") ? 1 : 0, 1);
        }
    }

    static void everyTest(String page) throws Exception {
        List<Path> files;
        try (Stream<Path> found = Files.list(Path.of("src/test/java"))) {
            files = found.toList();
        }
        int tests = 0;
        for (Path file : files) {
            String name = file.getFileName().toString().replace(".java", "");
            if (!name.endsWith("Test")) continue;
            due("README names " + name, page.contains("- `" + name + "`: ") ? 1 : 0, 1);
            tests++;
        }
        due("README: no test that is not there", page.split("\n- `").length - 1, tests);
    }
}
