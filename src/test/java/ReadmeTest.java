import java.io.IOException;
import java.lang.reflect.Method;
import java.nio.file.Files;
import java.nio.file.Path;
import java.util.regex.Matcher;
import java.util.regex.Pattern;

/** The examples of README.md answer what stands behind them there, and every call is named in it. */
public final class ReadmeTest {
    private static final Path README = Path.of("README.md");
    private static final Pattern NEW = Pattern.compile("AnswersFirst post = new AnswersFirst\\(\\);");
    private static final Pattern SAY = Pattern.compile("say\\(post, (\\d), \"([^\"]*)\"\\);");
    private static final Pattern CALL = Pattern.compile("post\\.(\\w+)\\(([^)]*)\\); +// (-?\\d+).*");
    private static final Checks C = new Checks();

    private AnswersFirst post;
    private int calls;

    public static void main(String[] args) throws IOException, ReflectiveOperationException {
        String readme = Files.readString(README);
        ReadmeTest test = new ReadmeTest();
        test.examples(readme);
        C.isTrue("the examples were found", test.calls > 20);
        everyCallIsNamed(readme);
        C.end();
    }

    private void examples(String readme) throws ReflectiveOperationException {
        int start = readme.indexOf("AnswersFirst post = ");
        int end = readme.indexOf("```", Math.max(0, start));
        C.isTrue("README.md has examples", start >= 0 && end > start);
        for (String line : readme.substring(Math.max(0, start), Math.max(0, end)).split("\n")) {
            if (!line.isEmpty() && !line.startsWith("//")) {
                example(line);
            }
        }
    }

    private void example(String line) throws ReflectiveOperationException {
        Matcher say = SAY.matcher(line);
        Matcher call = CALL.matcher(line);
        if (NEW.matcher(line).matches()) {
            post = new AnswersFirst();
        } else if (say.matches()) {
            Checks.say(post, Integer.parseInt(say.group(1)), say.group(2));
        } else if (call.matches()) {
            calls++;
            C.due(line, answer(call.group(1), call.group(2)), Long.parseLong(call.group(3)));
        } else {
            C.isTrue("an example: " + line, false);
        }
    }

    private long answer(String name, String numbers) throws ReflectiveOperationException {
        String[] parts = numbers.isEmpty() ? new String[0] : numbers.split(", ");
        Object[] arguments = new Object[parts.length];
        Class<?>[] types = new Class<?>[parts.length];
        for (int i = 0; i < parts.length; i++) {
            arguments[i] = parts[i].equals("AnswersFirst.NONE") ? AnswersFirst.NONE : Integer.parseInt(parts[i]);
            types[i] = int.class;
        }
        return ((Number) AnswersFirst.class.getMethod(name, types).invoke(post, arguments)).longValue();
    }

    private static void everyCallIsNamed(String readme) {
        for (Method m : AnswersFirst.class.getDeclaredMethods()) {
            if (java.lang.reflect.Modifier.isPublic(m.getModifiers())) {
                C.isTrue("README.md names " + m.getName(), readme.contains("`" + m.getName() + "`"));
            }
        }
    }
}
