import java.io.IOException;
import java.lang.reflect.Method;
import java.lang.reflect.Modifier;
import java.nio.file.Files;
import java.nio.file.Path;
import java.util.regex.Matcher;
import java.util.regex.Pattern;

/** README.md: its examples answer what they say, and its table has every call of the face. */
public final class ReadmeTest {
    private static final Pattern EXAMPLE = Pattern.compile("x\\.(\\w+)\\((.*)\\); +// ([A-Z]+|-?\\d+): .*");

    private final Checks checks = new Checks();
    private FollowingCalf x;
    private int examples;

    public static void main(String[] args) throws IOException, ReflectiveOperationException {
        ReadmeTest test = new ReadmeTest();
        String readme = Files.readString(Path.of("README.md"));
        for (String line : readme.split("\n")) {
            test.oneLine(line);
        }
        test.checks.due("there are examples", test.examples > 10);
        test.everyCall(readme);
        test.checks.end("ReadmeTest");
    }

    private void oneLine(String line) throws ReflectiveOperationException {
        if (line.startsWith("FollowingCalf x = new FollowingCalf();")) {
            x = new FollowingCalf();
        } else if (line.startsWith("x.")) {
            Matcher example = EXAMPLE.matcher(line);
            checks.due("an example tells its answer: " + line, example.matches());
            checks.due(line, answer(example.group(1), example.group(2)), told(example.group(3)));
            examples++;
        }
    }

    private static long told(String answer) throws ReflectiveOperationException {
        boolean isName = Character.isLetter(answer.charAt(0));
        return isName ? FollowingCalf.class.getField(answer).getInt(null) : Long.parseLong(answer);
    }

    private long answer(String name, String numbers) throws ReflectiveOperationException {
        for (Method m : FollowingCalf.class.getMethods()) {
            if (m.getName().equals(name) && m.getDeclaringClass() == FollowingCalf.class) {
                return ((Number) m.invoke(x, arguments(m, numbers))).longValue();
            }
        }
        throw new NoSuchMethodException(name);
    }

    private static Object[] arguments(Method m, String numbers) {
        Object[] arguments = new Object[m.getParameterCount()];
        String[] parts = numbers.split(", ");
        for (int i = 0; i < arguments.length; i++) {
            long number = Long.decode(parts[i].replace("L", ""));
            if (m.getParameterTypes()[i] == long.class) {
                arguments[i] = number;
            } else {
                arguments[i] = (int) number;
            }
        }
        return arguments;
    }

    private void everyCall(String readme) {
        for (Method m : FollowingCalf.class.getDeclaredMethods()) {
            if (Modifier.isPublic(m.getModifiers())) {
                String numbers = m.getParameterCount() == 0 ? "" : "\\w+(, \\w+){" + (m.getParameterCount() - 1) + "}";
                Pattern row = Pattern.compile("(?m)^\\| `" + m.getName() + "\\(" + numbers + "\\)` \\|");
                checks.due("the table has a row for " + m.getName(), row.matcher(readme).results().count(), 1);
            }
        }
    }
}
