import java.io.IOException;
import java.lang.reflect.Method;
import java.nio.file.Files;
import java.nio.file.Path;
import java.util.regex.Matcher;
import java.util.regex.Pattern;

/** The calls that README.md shows, in their order on one object: each answers what stands behind it there. */
public final class ReadmeTest {
    private static final Pattern CALL = Pattern.compile("x\\.(\\w+)\\((.*?)\\);\\s*// (-?\\d+)\\b.*");

    public static void main(String[] args) throws IOException, ReflectiveOperationException {
        Due due = new Due();
        FrontFour x = new FrontFour();
        StringBuilder table = new StringBuilder();
        for (String line : Files.readAllLines(Path.of("README.md"))) {
            if (line.startsWith("x.")) {
                Matcher call = CALL.matcher(line);
                due.is("an answer stands behind " + line, call.matches(), true);
                if (call.matches()) {
                    due.is(line, answer(x, call.group(1), call.group(2)), Long.parseLong(call.group(3)));
                }
            }
            table.append(line.startsWith("| `") ? line : "");
        }
        for (Method method : FrontFour.class.getDeclaredMethods()) {
            boolean isPublic = java.lang.reflect.Modifier.isPublic(method.getModifiers());
            boolean isTold = table.indexOf("`" + method.getName() + "`") >= 0;
            due.is("the table tells " + method.getName(), isTold || !isPublic, true);
        }
        due.close();
    }

    private static long answer(FrontFour x, String name, String told) throws ReflectiveOperationException {
        String[] numbers = told.isEmpty() ? new String[0] : told.split(", ");
        Class<?>[] types = new Class<?>[numbers.length];
        Object[] values = new Object[numbers.length];
        for (int i = 0; i < numbers.length; i++) {
            types[i] = int.class;
            values[i] = Integer.decode(numbers[i]);
        }
        return (int) FrontFour.class.getMethod(name, types).invoke(x, values);
    }
}
