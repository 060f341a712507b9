import java.io.IOException;
import java.lang.reflect.InvocationTargetException;
import java.lang.reflect.Method;
import java.lang.reflect.Modifier;
import java.nio.file.Files;
import java.nio.file.Path;
import java.util.regex.Matcher;
import java.util.regex.Pattern;

/** README.md names every call, and its example answers what stands behind each call. */
public final class ReadmeTest {
    private static final Check CHECK = new Check("ReadmeTest");
    private static final Pattern CALL = Pattern.compile("(?m)^x\\.(\\w+)\\(([^)]*)\\);\\s*// (-?\\w+)");

    public static void main(String[] args) throws IOException {
        String page = Files.readString(Path.of(System.getProperty("readme", "README.md")));
        for (Method method : LampHall.class.getDeclaredMethods()) {
            if (Modifier.isPublic(method.getModifiers())) {
                CHECK.due("whether the page names " + method.getName(), page.contains("`" + method.getName()), true);
            }
        }
        LampHall x = new LampHall();
        int calls = 0;
        Matcher call = CALL.matcher(page);
        while (call.find()) {
            calls++;
            CHECK.due(call.group(), String.valueOf(answer(x, call.group(1), call.group(2))), call.group(3));
        }
        CHECK.due("whether the page has an example", calls > 5, true);
        CHECK.end();
    }

    private static Object answer(LampHall x, String name, String told) {
        for (Method method : LampHall.class.getDeclaredMethods()) {
            if (method.getName().equals(name) && Modifier.isPublic(method.getModifiers())) {
                try {
                    return method.invoke(x, arguments(told));
                } catch (IllegalAccessException | InvocationTargetException thrown) {
                    return thrown;
                }
            }
        }
        return "no such call";
    }

    private static Object[] arguments(String told) {
        if (told.isEmpty()) {
            return new Object[0];
        }
        String[] parts = told.split(", ");
        Object[] arguments = new Object[parts.length];
        for (int i = 0; i < parts.length; i++) {
            arguments[i] = parts[i].matches("true|false") ? (Object) Boolean.valueOf(parts[i]) : Integer.valueOf(parts[i]);
        }
        return arguments;
    }
}
