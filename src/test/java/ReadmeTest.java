import java.io.IOException;
import java.lang.reflect.Field;
import java.lang.reflect.Method;
import java.lang.reflect.Modifier;
import java.nio.file.Files;
import java.nio.file.Path;
import java.util.regex.Matcher;
import java.util.regex.Pattern;

/** What README.md says of the class: its example's answers, and that it names every call and every refusal. */
public final class ReadmeTest {
    private static final Checks CHECKS = new Checks();
    private static final String NEW = "new LoopSpaces()";
    private static final Pattern CALL = Pattern.compile("\\s*x\\.(\\w+)\\((.*)\\);\\s*// (-?\\d+): .*");

    public static void main(String[] args) throws IOException, ReflectiveOperationException {
        String page = Files.readString(Path.of("README.md"));
        examples(page);
        calls(page);
        refusals(page);
        CHECKS.end("ReadmeTest");
    }

    private static void examples(String page) throws ReflectiveOperationException {
        Matcher block = Pattern.compile("(?s)```java\n(.*?)```").matcher(page);
        int told = 0;
        while (block.find()) {
            LoopSpaces x = null;
            for (String line : block.group(1).lines().toList()) {
                Matcher call = CALL.matcher(line);
                if (line.contains(NEW)) {
                    x = new LoopSpaces();
                } else if (x != null && call.matches()) {
                    CHECKS.same(line, answer(x, call.group(1), call.group(2)), Long.parseLong(call.group(3)));
                    told++;
                } else {
                    CHECKS.holds("a call with its answer: " + line, false);
                }
            }
        }
        CHECKS.holds("the page has an example: " + told, told > 0);
    }

    private static long answer(LoopSpaces x, String name, String numbers) throws ReflectiveOperationException {
        String[] written = numbers.split(", ");
        for (Method method : LoopSpaces.class.getMethods()) {
            if (method.getName().equals(name) && method.getParameterCount() == written.length) {
                Object[] given = new Object[written.length];
                for (int i = 0; i < written.length; i++) {
                    given[i] = number(written[i], method.getParameterTypes()[i]);
                }
                return ((Number) method.invoke(x, given)).longValue();
            }
        }
        throw new NoSuchMethodException(name + " of " + written.length);
    }

    private static Object number(String written, Class<?> type) {
        long value = written.startsWith("'") ? written.charAt(1) : Long.decode(written.replace("L", ""));
        if (type == long.class) {
            return value;
        }
        return Math.toIntExact(value);
    }

    private static void calls(String page) {
        for (Method method : LoopSpaces.class.getDeclaredMethods()) {
            if (Modifier.isPublic(method.getModifiers())) {
                int many = method.getParameterCount();
                String numbers = many == 0 ? "" : "\\w+" + ", \\w+".repeat(many - 1);
                Pattern named = Pattern.compile("`" + method.getName() + "\\(" + numbers + "\\)`");
                CHECKS.holds("the page names " + method.getName(), named.matcher(page).find());
            }
        }
    }

    private static void refusals(String page) throws IllegalAccessException {
        for (Field field : LoopSpaces.class.getFields()) {
            String row = "| " + field.getInt(null) + " | `" + field.getName() + "` |";
            CHECKS.holds("the page has " + row, page.contains(row));
        }
    }
}
