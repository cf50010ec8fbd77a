import java.lang.reflect.Method;
import java.lang.reflect.Modifier;
import java.nio.file.Files;
import java.nio.file.Path;
import java.util.regex.Matcher;
import java.util.regex.Pattern;

/** What README.md says of the calls: those of its example answer what stands behind them; its table has them all. */
public final class ReadmeTest {
    public static void main(String[] args) throws Exception {
        String readme = Files.readString(Path.of("README.md"));
        example(readme.substring(readme.indexOf("```java"), readme.indexOf("\n```\n")));
        table(readme.substring(readme.indexOf("| What for"), readme.indexOf("\nAn n among")));
        Check.finish();
    }

    private static void example(String code) throws ReflectiveOperationException {
        IceLogs logs = new IceLogs();
        Matcher line = Pattern.compile("(?m)^logs\\.(\\w+)\\((.*?)\\); *// (-?\\w+):").matcher(code);
        int lines = 0;
        while (line.find()) {
            lines++;
            Check.due(0, line.group(), answer(logs, line.group(1), line.group(2)).equals(line.group(3)), true);
        }
        Check.due(0, "lines of the example behind the first two", lines, code.split("\n").length - 2);
    }

    private static String answer(IceLogs logs, String name, String arguments) throws ReflectiveOperationException {
        String[] written = arguments.isEmpty() ? new String[0] : arguments.split(", ");
        Object[] values = new Object[written.length];
        for (int i = 0; i < written.length; i++) {
            values[i] = Integer.decode(written[i]);
        }
        for (Method method : IceLogs.class.getDeclaredMethods()) {
            if (method.getName().equals(name) && method.getParameterCount() == values.length) {
                return String.valueOf(method.invoke(logs, values));
            }
        }
        return "no such call";
    }

    private static void table(String rows) {
        int calls = 0;
        for (Method method : IceLogs.class.getDeclaredMethods()) {
            if (Modifier.isPublic(method.getModifiers())) {
                calls++;
                Check.due(0, method.getName() + " is in the table", rows.split("`" + method.getName() + "`", -1).length, 2);
            }
        }
        Check.due(0, "calls in the table", rows.split("`").length / 2, calls);
    }
}
