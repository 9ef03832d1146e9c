import java.io.IOException;
import java.lang.reflect.Constructor;
import java.lang.reflect.Field;
import java.lang.reflect.Method;
import java.lang.reflect.Modifier;
import java.nio.file.Files;
import java.nio.file.Path;
import java.util.Arrays;
import java.util.List;
import java.util.Set;
import java.util.TreeSet;
import java.util.regex.Matcher;
import java.util.regex.Pattern;

/** The document's face, and those rules of LANGUAGE.md that can be seen without running the class. */
public final class RuleTest {
    private static final Check CHECK = new Check("RuleTest");
    private static final List<String> FACE = List.of("int feed(int,int,int,int,int)", "boolean end(int)", "int house()",
        "int will()", "int fault()", "int room(int,int)", "int heir(int,int)", "int noise(int,int)", "int cost(int,int)",
        "int at(int,int)", "int title(int,int)", "int part(int,int,int)", "int hours(int)", "int go(int,int)",
        "boolean make(int)", "int oil(int,int)", "int carpet(int,int)", "boolean undo()", "int odds(int,int,int)",
        "int likeliest(int,int)", "long due(int,int)", "int quiet(int,int,int)", "int suspects(int)", "int ghost(int)",
        "long breach(int,int)", "long silence(int,int,int,boolean)", "int ears(int,int)", "int seat(int)",
        "long value(int)", "long sale(boolean)", "int seed(int)", "void image()", "boolean back()", "int count(int)");

    public static void main(String[] args) throws IOException, ReflectiveOperationException {
        farHours();
        face();
        names();
        sizes();
        source(Files.readString(Path.of("src/main/java/NoiseHouse.java")));
        CHECK.finish();
    }

    /** Rule 7 knows no last call: where HOURS go round as an int nothing may throw by itself. */
    private static void farHours() throws ReflectiveOperationException {
        for (int hour : new int[] {Integer.MAX_VALUE - 2, Integer.MIN_VALUE, Integer.MIN_VALUE + 39, -45, -1}) {
            NoiseHouse x = new NoiseHouse();
            Check.write(x, "room 0;heir in 0 ear 1;noise beast 100 in 0 pitch 1 loud 9 worth 1;noise clock 0 23 in 0 pitch 1 loud 9 worth 1");
            x.house();
            Field state = NoiseHouse.class.getDeclaredField("now");
            state.setAccessible(true);
            Field time = state.getType().getDeclaredField("time");
            time.setAccessible(true);
            time.setInt(state.get(x), hour);
            for (int more = 0; more < 3; more++) {
                holds("hours from " + hour, x.hours(50) >= 50);
                holds("suspects from " + hour, x.suspects(0) >= 0 && x.suspects(1) >= 0);
            }
        }
    }

    private static void face() {
        Set<String> found = new TreeSet<>();
        for (Method method : NoiseHouse.class.getDeclaredMethods()) {
            if (!Modifier.isPrivate(method.getModifiers())) {
                found.add(method.getReturnType().getName() + " " + method.getName() + "("
                    + String.join(",", Arrays.stream(method.getParameterTypes()).map(Class::getName).toList()) + ")");
            }
        }
        holds("the methods of the face: " + found, found.equals(new TreeSet<>(FACE)));
        for (Field field : NoiseHouse.class.getDeclaredFields()) {
            holds("field " + field, Modifier.isPrivate(field.getModifiers()) || field.getName().equals("NONE"));
        }
        Constructor<?>[] made = NoiseHouse.class.getDeclaredConstructors();
        holds("one constructor", made.length == 1 && Modifier.isPublic(made[0].getModifiers()) && made[0].getParameterCount() == 0);
        holds("public and final", (NoiseHouse.class.getModifiers() & (Modifier.PUBLIC | Modifier.FINAL)) == (Modifier.PUBLIC | Modifier.FINAL));
    }

    private static void names() {
        Set<String> open = new TreeSet<>();
        for (String row : FACE) {
            open.add(row.substring(row.indexOf(' ') + 1, row.indexOf('(')));
        }
        for (Class<?> inner : NoiseHouse.class.getDeclaredClasses()) {
            holds(inner + " is static", Modifier.isStatic(inner.getModifiers()));
            for (Method method : inner.getDeclaredMethods()) {
                holds(method + " bears a name of the face", !open.contains(method.getName()));
                holds(method + " has at most seven parameters", method.getParameterCount() <= 7);
            }
        }
        for (Method method : NoiseHouse.class.getDeclaredMethods()) {
            holds(method + " bears a name of the face", Modifier.isPublic(method.getModifiers()) || !open.contains(method.getName()));
        }
    }

    private static void sizes() {
        holds("at most twelve classes", NoiseHouse.class.getDeclaredClasses().length <= 11);
        for (Class<?> inner : NoiseHouse.class.getDeclaredClasses()) {
            long fields = Arrays.stream(inner.getDeclaredFields()).filter(f -> !Modifier.isStatic(f.getModifiers())).count();
            holds(inner + " has at most twenty fields", fields <= 20);
        }
    }

    private static void source(String source) {
        String code = source.replaceAll("(?s)/\\*.*?\\*/", "").replaceAll("\"[^\"]*\"", "\"\"");
        for (String word : List.of("try", "catch", "finally", "synchronized", "assert", "instanceof", "Exact\\(", "->", "::",
            "System\\.(?!arraycopy)", "Random", "getMessage", "static \\{", "package", "double", "float")) {
            holds("no " + word, !Pattern.compile("(?<![A-Za-z])" + word + "(?![A-Za-z])").matcher(code).find());
        }
        Matcher made = Pattern.compile("throw new (\\w+)\\(").matcher(code);
        while (made.find()) {
            holds("throws " + made.group(1), Set.of("IllegalArgumentException", "IndexOutOfBoundsException",
                "UnsupportedOperationException", "NoSuchElementException").contains(made.group(1)));
        }
        Matcher imports = Pattern.compile("import ([\\w.]+);").matcher(code);
        while (imports.find()) {
            holds("import " + imports.group(1), imports.group(1).equals("java.util.NoSuchElementException"));
        }
        newOnlyInFieldsAndConstructors(code);
        holds("signs of texts are 1 to 127", source.chars().allMatch(c -> c < 128));
    }

    /** Calls make nothing but exceptions, so that a run's room is that of its constructors. */
    private static void newOnlyInFieldsAndConstructors(String code) {
        String method = "";
        int length = 0;
        for (String line : code.split("\n")) {
            Matcher head = Pattern.compile("^ {4,8}(?:[\\w\\[\\]]+ )*(\\w+)\\([^;]*$").matcher(line);
            boolean isHead = head.find() && !line.contains("=");
            method = isHead ? head.group(1) : line.matches(" {4,8}\\}") ? "" : method;
            length = isHead || method.isEmpty() ? 0 : length + 1;
            holds(method + " is short", length <= 60);
            boolean makes = line.contains("new ") && !line.contains("throw new ");
            holds("made in " + method + ": " + line.trim(), !makes || method.isEmpty() || method.equals("House"));
        }
    }

    private static void holds(String what, boolean fits) {
        CHECK.due(what, true, fits);
    }
}
