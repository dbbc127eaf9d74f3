import java.io.IOException;
import java.lang.reflect.InvocationTargetException;
import java.lang.reflect.Method;
import java.nio.file.Files;
import java.nio.file.Path;
import java.util.regex.Matcher;
import java.util.regex.Pattern;

/** The example of README.md: its calls, each with the answer, or the exception, that stands behind it. */
public final class ReadmeTest {
    private static final Pattern CALL = Pattern.compile("^ {4}table\\.(\\w+)\\(([-\\d, ]*)\\); +// ([^:]+): ");

    public static void main(String[] args) throws IOException, IllegalAccessException {
        PepperboxTable table = new PepperboxTable();
        int calls = 0;
        for (String line : Files.readAllLines(Path.of("README.md"))) {
            Matcher call = CALL.matcher(line);
            if (call.find()) {
                calls++;
                isAnswered(line.strip(), call.group(3), answer(table, call.group(1), call.group(2)));
            } else {
                Due.is("a call that was not understood: " + line, false, line.startsWith("    table."));
            }
        }
        Due.is("the example was found", true, calls > 0);
        Due.end("ReadmeTest");
    }

    private static void isAnswered(String line, String due, String got) {
        if (!due.equals(got)) {
            Due.wrong(line, "answered " + got);
        }
    }

    private static String answer(PepperboxTable table, String name, String numbers) throws IllegalAccessException {
        String[] texts = numbers.isBlank() ? new String[0] : numbers.split(", *");
        Object[] given = new Object[texts.length];
        for (int k = 0; k < texts.length; k++) {
            given[k] = Integer.valueOf(texts[k].strip());
        }
        try {
            return String.valueOf(called(name).invoke(table, given));
        } catch (InvocationTargetException e) {
            return e.getCause().getClass().getSimpleName();
        }
    }

    private static Method called(String name) {
        for (Method method : PepperboxTable.class.getMethods()) {
            if (method.getName().equals(name)) {
                return method;
            }
        }
        throw new IllegalArgumentException("the class has no " + name);
    }
}
