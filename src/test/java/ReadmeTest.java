import java.lang.reflect.Method;
import java.lang.reflect.Modifier;
import java.nio.file.Files;
import java.nio.file.Path;
import java.util.regex.Matcher;
import java.util.regex.Pattern;

/** What README.md says: its calls answer what stands behind them, and it names every call and test. */
public final class ReadmeTest {
    private static final Pattern TEXT = Pattern.compile("\"([^\"]*)\"\\.toCharArray");
    private static final Pattern CALL = Pattern.compile("\nx\\.(\\w+)\\(([-0-9, ]*)\\);\\s*// (-?\\d+):");
    private static final Due due = new Due("ReadmeTest");

    public static void main(String[] args) throws Exception {
        String readme = Files.readString(Path.of("README.md"));
        calls(readme);
        names(readme);
        due.end();
    }

    private static void calls(String readme) throws Exception {
        LeftAlone x = new LeftAlone();
        Matcher text = TEXT.matcher(readme);
        due.holds("a text is fed", text.find());
        for (char c : text.group(1).toCharArray()) {
            x.feed(c);
        }
        int made = 0;
        Matcher call = CALL.matcher(readme);
        while (call.find()) {
            String numbers = call.group(2);
            due.is(call.group(1) + "(" + numbers + ")", answer(x, call.group(1), numbers), Long.parseLong(call.group(3)));
            made++;
        }
        due.is("calls in README.md", readme.split("\nx\\.").length - 1, made);
    }

    private static long answer(LeftAlone x, String name, String numbers) throws Exception {
        String[] told = numbers.isEmpty() ? new String[0] : numbers.split(", ");
        Object[] values = new Object[told.length];
        Class<?>[] types = new Class<?>[told.length];
        for (int i = 0; i < told.length; i++) {
            values[i] = Integer.parseInt(told[i]);
            types[i] = int.class;
        }
        return ((Number) LeftAlone.class.getMethod(name, types).invoke(x, values)).longValue();
    }

    private static void names(String readme) throws Exception {
        for (Method m : LeftAlone.class.getDeclaredMethods()) {
            if (Modifier.isPublic(m.getModifiers())) {
                due.holds("README.md names " + m.getName(), readme.contains("`" + m.getName() + "`"));
            }
        }
        try (var tests = Files.list(Path.of("src/test/java"))) {
            for (Path test : tests.filter(Files::isRegularFile).toList()) {
                String name = test.getFileName().toString().replace(".java", "");
                due.holds("README.md names " + name, readme.contains("`" + name + "`"));
            }
        }
    }
}
