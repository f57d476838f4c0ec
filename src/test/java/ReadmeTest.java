import java.lang.reflect.Method;
import java.nio.file.Files;
import java.nio.file.Path;
import java.util.HashSet;
import java.util.Set;
import java.util.regex.Matcher;
import java.util.regex.Pattern;

/** The calls that README.md shows, in their order on one object, answer what stands behind them there. */
public final class ReadmeTest {
    private static final Pattern CALL = Pattern.compile("m\\.(\\w+)\\(([^)]*)\\);\\s*// (-?\\d+|true|false)\\b.*");

    private ReadmeTest() { }

    public static void main(String[] args) throws Exception {
        Due due = new Due();
        MiddleSheet m = new MiddleSheet();
        Set<String> shown = new HashSet<>();
        for (String line : Files.readAllLines(Path.of("README.md"))) {
            if (!line.startsWith("m.")) {
                continue;
            }
            Matcher call = CALL.matcher(line);
            due.is("a call and its answer: " + line, call.matches(), true);
            due.is(line, answer(m, call.group(1), call.group(2)).equals(call.group(3)), true);
            shown.add(call.group(1));
        }
        for (Method face : MiddleSheet.class.getMethods()) {
            boolean own = face.getDeclaringClass() == MiddleSheet.class;
            due.is("shown: " + face.getName(), !own || shown.contains(face.getName()), true);
        }
        due.close();
    }

    private static String answer(MiddleSheet m, String name, String arguments) throws Exception {
        String[] parts = arguments.isEmpty() ? new String[0] : arguments.split(", ");
        Class<?>[] types = new Class<?>[parts.length];
        Object[] numbers = new Object[parts.length];
        for (int i = 0; i < parts.length; i++) {
            types[i] = int.class;
            numbers[i] = Integer.decode(parts[i]);
        }
        return String.valueOf(MiddleSheet.class.getMethod(name, types).invoke(m, numbers));
    }
}
