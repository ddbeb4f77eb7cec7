import java.io.IOException;
import java.lang.reflect.InvocationTargetException;
import java.lang.reflect.Method;
import java.nio.file.Files;
import java.nio.file.Path;
import java.util.Arrays;
import java.util.regex.Matcher;
import java.util.regex.Pattern;

/** What README.md says that calls answer is what they answer. */
public final class ReadmeTest {
    private static final Pattern LINE = Pattern.compile(
        "(?:echoes\\.(\\w+)\\(([^)]*)\\)|tell\\(echoes, \"([^\"]*)\"\\)); *// (?:(-?\\d+):.*|throws (\\w+))");

    public static void main(String[] args) throws IOException, ReflectiveOperationException {
        SoldEchoes echoes = null;
        int told = 0;
        for (String line : Files.readAllLines(Path.of(args.length > 0 ? args[0] : ".", "README.md"))) {
            Matcher m = LINE.matcher(line);
            if (line.equals("SoldEchoes echoes = new SoldEchoes();")) {
                echoes = new SoldEchoes();
            } else if (m.matches()) {
                told++;
                String due = m.group(4) != null ? m.group(4) : m.group(5);
                String got = m.group(3) != null ? "" + Check.tell(echoes, m.group(3)) : answer(echoes, m.group(1), m.group(2));
                Check.so(line + " answered " + got, got.equals(due));
            } else {
                Check.so("a line that tells no answer: " + line, !line.startsWith("echoes.") && !line.startsWith("tell("));
            }
        }
        Check.so("README.md tells answers: " + told, told > 30);
        Check.end("ReadmeTest");
    }

    private static String answer(SoldEchoes echoes, String name, String numbers) throws ReflectiveOperationException {
        Object[] values = numbers.isEmpty() ? new Object[0]
            : Arrays.stream(numbers.split(", *")).map(n -> (Object) Long.decode(n).intValue()).toArray();
        Class<?>[] types = new Class<?>[values.length];
        Arrays.fill(types, int.class);
        Method m = SoldEchoes.class.getMethod(name, types);
        try {
            return "" + m.invoke(echoes, values);
        } catch (InvocationTargetException e) {
            return e.getCause().getClass().getSimpleName();
        }
    }
}
