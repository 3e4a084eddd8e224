import java.io.IOException;
import java.lang.reflect.InvocationTargetException;
import java.lang.reflect.Method;
import java.lang.reflect.Modifier;
import java.nio.file.Files;
import java.nio.file.Path;
import java.util.regex.Matcher;
import java.util.regex.Pattern;

/** Holds the class against README.md: every answer of its example, and the names of all calls. */
public final class ReadmeTest {
    private static final Pattern TEXT = Pattern.compile("\"([^\"]*)\"\\.toCharArray");
    /** A call with numbers alone, and behind it the answer that the reader is told. */
    private static final Pattern LINE = Pattern.compile("x\\.(\\w+)\\(([\\d, ]*)\\); *// (\\w+): .*");

    public static void main(String[] args) throws IOException, IllegalAccessException {
        String readme = Files.readString(Path.of("README.md"));
        example(readme);
        allCallsAreNamed(readme);
        Check.finish("ReadmeTest");
    }

    private static void example(String readme) throws IllegalAccessException {
        int begin = readme.indexOf("```java");
        int end = begin < 0 ? -1 : readme.indexOf("```", begin + 3);
        Matcher text = TEXT.matcher(readme);
        if (end < 0 || !text.find(begin)) {
            Check.wrong("README.md has no example with a text");
            return;
        }
        Clip x = Check.withText(new Clip(), text.group(1));
        int lines = 0;
        Matcher line = LINE.matcher(readme).region(text.end(), end);
        while (line.find()) {
            lines++;
            Check.same("README " + line.group(), answer(x, line.group(1), line.group(2)), line.group(3));
        }
        Check.due("README lines of the example that tell an answer", lines, 11);
    }

    private static String answer(Clip x, String name, String numbers) throws IllegalAccessException {
        String[] parts = numbers.isEmpty() ? new String[0] : numbers.split(", *");
        Object[] arguments = new Object[parts.length];
        for (int i = 0; i < parts.length; i++) {
            arguments[i] = Integer.parseInt(parts[i]);
        }
        for (Method m : Clip.class.getDeclaredMethods()) {
            if (m.getName().equals(name)) {
                try {
                    Object got = m.invoke(x, arguments);
                    return got.equals(ClipboardHistory.NONE) ? "NONE" : got.toString();
                } catch (InvocationTargetException e) {
                    return e.getCause().getClass().getSimpleName();
                }
            }
        }
        return "no such call";
    }

    private static void allCallsAreNamed(String readme) {
        for (Method m : ClipboardHistory.class.getDeclaredMethods()) {
            if (Modifier.isPublic(m.getModifiers()) && !readme.contains("`" + m.getName() + "`")) {
                Check.wrong("README.md does not name " + m.getName());
            }
        }
    }
}
