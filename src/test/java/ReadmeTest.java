import java.io.IOException;
import java.lang.reflect.Method;
import java.nio.file.Files;
import java.nio.file.Path;
import java.util.List;
import java.util.Set;
import java.util.TreeSet;
import java.util.regex.Matcher;
import java.util.regex.Pattern;

// README.md's example answers what stands beside its calls, shows every method
// of the class, and so tells a reader nothing that does not hold.
public final class ReadmeTest {
    private static final String MAKING = "AliasClasses x = new AliasClasses();";
    private static final Pattern CALL = Pattern.compile("x\\.(\\w+)\\(([-0-9, ]*)\\);\\s*// (-?\\d+)(:.*)?");

    public static void main(String[] args) throws Exception {
        AliasClasses x = new AliasClasses();
        Set<String> shown = new TreeSet<>();
        for (String line : example()) {
            Matcher call = CALL.matcher(line);
            if (line.equals(MAKING)) {
                continue;
            }
            Check.due("README.md, a call with its answer: " + line, call.matches() ? 1 : 0, 1);
            if (call.matches()) {
                shown.add(call.group(1));
                Check.due("README.md: " + line, answer(x, call.group(1), call.group(2)), Integer.parseInt(call.group(3)));
            }
        }
        for (Method method : AliasClasses.class.getMethods()) {
            if (method.getDeclaringClass() == AliasClasses.class) {
                Check.due("README.md shows " + method.getName(), shown.contains(method.getName()) ? 1 : 0, 1);
            }
        }
        Check.end();
    }

    // The lines between ```java and the next ```.
    private static List<String> example() throws IOException {
        List<String> lines = Files.readAllLines(Path.of("README.md"));
        List<String> rest = lines.subList(lines.indexOf("```java") + 1, lines.size());
        return rest.subList(0, rest.indexOf("```"));
    }

    private static int answer(AliasClasses x, String name, String numbers) throws Exception {
        String[] words = numbers.isBlank() ? new String[0] : numbers.split(",");
        Object[] values = new Object[words.length];
        Class<?>[] types = new Class<?>[words.length];
        for (int i = 0; i < words.length; i++) {
            values[i] = Integer.parseInt(words[i].trim());
            types[i] = int.class;
        }
        return (Integer) AliasClasses.class.getMethod(name, types).invoke(x, values);
    }
}
