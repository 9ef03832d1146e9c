import java.io.IOException;
import java.lang.reflect.InvocationTargetException;
import java.lang.reflect.Method;
import java.nio.file.Files;
import java.nio.file.Path;
import java.util.regex.Matcher;
import java.util.regex.Pattern;

/** The examples of README.md, line by line on one object: each answers what stands behind it. */
public final class ReadmeTest {
    private static final Check CHECK = new Check("ReadmeTest");
    private static final Pattern CALL = Pattern.compile("x\\.(\\w+)\\(([^)]*)\\);\\s*(?:// ([\\w-]+).*)?");

    public static void main(String[] args) throws IOException, ReflectiveOperationException {
        NoiseHouse x = new NoiseHouse();
        boolean code = false;
        for (String line : Files.readAllLines(Path.of("README.md"))) {
            if (line.startsWith("```")) {
                code = line.equals("```java");
            } else if (code && !line.equals("NoiseHouse x = new NoiseHouse();")) {
                Matcher call = CALL.matcher(line);
                boolean isCall = call.matches();
                CHECK.due("a line that is a call: " + line, true, isCall);
                if (isCall) {
                    CHECK.same(line, String.valueOf(call.group(3)), answer(x, call.group(1), call.group(2)));
                }
            }
        }
        CHECK.finish();
    }

    private static String answer(NoiseHouse x, String name, String written) throws ReflectiveOperationException {
        String[] words = written.isEmpty() ? new String[0] : written.split(", ");
        Object[] values = new Object[words.length];
        Class<?>[] types = new Class<?>[words.length];
        for (int i = 0; i < words.length; i++) {
            values[i] = Integer.decode(words[i]);
            types[i] = int.class;
        }
        Method method = NoiseHouse.class.getMethod(name, types);
        try {
            return String.valueOf(method.invoke(x, values));
        } catch (InvocationTargetException e) {
            return e.getCause().getClass().getSimpleName();
        }
    }
}
