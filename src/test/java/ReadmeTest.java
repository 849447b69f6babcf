import java.io.IOException;
import java.lang.reflect.Method;
import java.lang.reflect.Modifier;
import java.nio.file.Files;
import java.nio.file.Path;
import java.util.regex.Matcher;
import java.util.regex.Pattern;
import support.Check;

/** The example of README.md answers what its comments begin with, and its table has every call. */
public final class ReadmeTest {
    private static final Path README = Path.of("README.md");
    private static final Pattern EXAMPLE = Pattern.compile("^x\\.(\\w+)\\(([-0-9, ]*)\\); +// (-?\\d+)", Pattern.MULTILINE);
    private static final Check CHECK = new Check();

    public static void main(String[] args) throws IOException, ReflectiveOperationException {
        String readme = Files.readString(README);
        example(readme);
        table(readme);
        CHECK.end();
    }

    private static void example(String readme) throws ReflectiveOperationException {
        LinkRewirer x = new LinkRewirer();
        Matcher line = EXAMPLE.matcher(readme);
        int lines = 0;
        while (line.find()) {
            Number answer = call(x, line.group(1), line.group(2));
            CHECK.due(line.group(), answer.longValue(), Long.parseLong(line.group(3)));
            lines++;
        }
        long calls = readme.lines().filter(text -> text.startsWith("x.")).count();
        CHECK.due("lines of the example with an answer", lines, calls);
        CHECK.due("there is an example", lines > 0 ? 1 : 0, 1);
    }

    private static Number call(LinkRewirer x, String name, String list) throws ReflectiveOperationException {
        String[] texts = list.isEmpty() ? new String[0] : list.split(", ");
        Class<?>[] types = new Class<?>[texts.length];
        Object[] arguments = new Object[texts.length];
        for (int i = 0; i < texts.length; i++) {
            types[i] = int.class;
            arguments[i] = Integer.valueOf(texts[i]);
        }
        return (Number) LinkRewirer.class.getMethod(name, types).invoke(x, arguments);
    }

    private static void table(String readme) {
        for (Method method : LinkRewirer.class.getDeclaredMethods()) {
            if (Modifier.isPublic(method.getModifiers())) {
                Pattern row = Pattern.compile("^\\|[^|]*`" + method.getName() + "\\(", Pattern.MULTILINE);
                CHECK.due("the table has " + method.getName(), row.matcher(readme).find() ? 1 : 0, 1);
            }
        }
    }
}
