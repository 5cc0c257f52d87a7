import java.lang.reflect.Method;
import java.lang.reflect.Modifier;
import java.nio.file.Files;
import java.nio.file.Path;
import java.util.Set;
import java.util.TreeSet;
import java.util.regex.Matcher;
import java.util.regex.Pattern;

/** The example of README.md: each call answers what stands behind it, and no call of the face is left out. */
public final class ReadmeTest {
    private static final Pattern CALL = Pattern.compile("x\\.(\\w+)\\((.*?)\\);\\s*// (-?\\d+)(?:: ([A-Z]+),)?.*");

    public static void main(String[] args) throws Exception {
        Check check = new Check();
        ExitFlows x = new ExitFlows();
        Set<String> missing = namesOfCalls();
        for (String line : Files.readAllLines(Path.of("README.md"))) {
            Matcher call = CALL.matcher(line);
            boolean isCall = call.matches();
            check.that("a call with its answer: " + line, isCall || !line.startsWith("x."));
            if (isCall) {
                int want = Integer.parseInt(call.group(3));
                check.due(line, answer(x, call.group(1), call.group(2)), want);
                if (call.group(4) != null) {
                    check.due(line, ExitFlows.class.getField(call.group(4)).getInt(null), want);
                }
                missing.remove(call.group(1));
            }
        }
        check.that("the example has every call, but not " + missing, missing.isEmpty());
        check.end();
    }

    private static Set<String> namesOfCalls() {
        Set<String> names = new TreeSet<>();
        for (Method method : ExitFlows.class.getDeclaredMethods()) {
            if (Modifier.isPublic(method.getModifiers())) {
                names.add(method.getName());
            }
        }
        return names;
    }

    private static int answer(ExitFlows x, String name, String numbers) throws Exception {
        String[] words = numbers.isEmpty() ? new String[0] : numbers.split(", ");
        Class<?>[] types = new Class<?>[words.length];
        Object[] values = new Object[words.length];
        for (int n = 0; n < words.length; n++) {
            types[n] = int.class;
            values[n] = words[n].startsWith("'") ? (int) words[n].charAt(1) : Integer.parseInt(words[n]);
        }
        return (int) ExitFlows.class.getMethod(name, types).invoke(x, values);
    }
}
