import java.io.IOException;
import java.lang.reflect.Method;
import java.lang.reflect.Modifier;
import java.nio.file.Files;
import java.nio.file.Path;
import java.util.Arrays;
import java.util.regex.Matcher;
import java.util.regex.Pattern;

/** What README.md tells of the class is so. */
public final class ReadmeTest {
    private static final Checks CHECKS = new Checks();
    private static final Pattern CALL = Pattern.compile("net\\.(\\w+)\\(([^)]*)\\);\\s+// (-?\\d+)(:.*)?");

    public static void main(String[] args) throws IOException, ReflectiveOperationException {
        String text = Files.readString(Path.of("README.md"));
        example(text);
        table(text);
        constants(text);
        CHECKS.end();
    }

    private static void example(String text) throws ReflectiveOperationException {
        CHECKS.sentence("README.md's example");
        FewLines net = new FewLines();
        for (String line : text.lines().filter(line -> line.startsWith("net.")).toList()) {
            Matcher call = CALL.matcher(line);
            boolean isTold = call.matches();
            CHECKS.holds("an answer is told: " + line, isTold);
            if (isTold) {
                Number got = answer(net, call.group(1), call.group(2));
                CHECKS.due(line, got.longValue(), Long.parseLong(call.group(3)));
            }
        }
    }

    private static Number answer(FewLines net, String name, String numbers) throws ReflectiveOperationException {
        Object[] arguments = Arrays.stream(numbers.split(", ")).map(Integer::valueOf).toArray();
        Class<?>[] types = new Class<?>[arguments.length];
        Arrays.fill(types, int.class);
        return (Number) FewLines.class.getMethod(name, types).invoke(net, arguments);
    }

    private static void table(String text) {
        CHECKS.sentence("README.md's table");
        for (Method method : FewLines.class.getDeclaredMethods()) {
            if (Modifier.isPublic(method.getModifiers())) {
                String row = "\n\\| `" + method.getName() + "\\(([^)]*)\\)` \\|";
                Matcher found = Pattern.compile(row).matcher(text);
                boolean isThere = found.find();
                CHECKS.holds(method.getName() + " has a row", isThere);
                if (isThere) {
                    String inside = found.group(1);
                    int told = inside.isEmpty() ? 0 : inside.split(", ").length;
                    CHECKS.due("numbers that " + method.getName() + " takes", told, method.getParameterCount());
                }
            }
        }
    }

    private static void constants(String text) {
        CHECKS.sentence("README.md tells of each constant");
        for (String name : new String[] {"NONE", "UNKNOWN", "OUTSIDE", "NOT", "FULL"}) {
            CHECKS.holds(name, text.contains("`" + name + "`"));
        }
    }
}
