import java.io.IOException;
import java.lang.reflect.Method;
import java.lang.reflect.Modifier;
import java.nio.file.Files;
import java.nio.file.Path;
import java.util.regex.Matcher;
import java.util.regex.Pattern;

/** README.md tells true: its example is run call by call; it is run from the project's root. */
public final class ReadmeTest {
    private static final Pattern CALL = Pattern.compile("x\\.(\\w+)\\(([^)]*)\\);(?:\\s*// (-?\\d+):)?.*");
    private static final Due due = new Due("ReadmeTest");

    public static void main(String[] args) throws IOException, ReflectiveOperationException {
        String text = Files.readString(Path.of("README.md"));
        example(text);
        for (Method method : RibbonSetter.class.getDeclaredMethods()) {
            if (Modifier.isPublic(method.getModifiers())) {
                due.is("tells of " + method.getName(), text.contains("`" + method.getName() + "("), true);
            }
        }
        due.end();
    }

    private static void example(String text) throws ReflectiveOperationException {
        int begin = text.indexOf("```java");
        int end = text.indexOf("```", begin + 1);
        due.is("has an example", begin >= 0 && end > begin, true);
        RibbonSetter x = new RibbonSetter();
        int told = 0;
        for (String line : text.substring(Math.max(begin, 0), Math.max(end, 0)).split("\n")) {
            Matcher call = CALL.matcher(line);
            if (call.matches()) {
                Object answer = answer(x, call.group(1), call.group(2));
                due.is(line + " is refused", Boolean.FALSE.equals(answer), false);
                if (call.group(3) != null) {
                    told++;
                    due.is(line, String.valueOf(answer), call.group(3));
                }
            }
        }
        due.is("the example tells answers", told > 0, true);
    }

    private static Object answer(RibbonSetter x, String name, String words) throws ReflectiveOperationException {
        String[] numbers = words.isBlank() ? new String[0] : words.split(",");
        Class<?>[] types = new Class<?>[numbers.length];
        Object[] values = new Object[numbers.length];
        for (int i = 0; i < numbers.length; i++) {
            types[i] = int.class;
            values[i] = Integer.valueOf(numbers[i].trim());
        }
        return RibbonSetter.class.getMethod(name, types).invoke(x, values);
    }
}
