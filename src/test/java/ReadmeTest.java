import java.io.IOException;
import java.lang.reflect.InvocationTargetException;
import java.lang.reflect.Method;
import java.lang.reflect.Modifier;
import java.nio.file.Files;
import java.nio.file.Path;
import java.util.Set;
import java.util.TreeSet;
import java.util.regex.Matcher;
import java.util.regex.Pattern;

/** What README.md shows by example is what the program answers, and it shows each call. */
public final class ReadmeTest {
    private static final String MADE = "WayShares x = new WayShares();";
    private static final Pattern CALL = Pattern.compile("x\\.(\\w+)\\((.*?)\\); +// (throws \\w+|-?\\w+)(?:: .*)?");

    public static void main(String[] args) throws IOException, IllegalAccessException {
        String[] lines = Files.readString(Path.of("README.md")).split("\n");
        Set<String> shown = new TreeSet<>();
        WayShares x = null;
        boolean example = false;
        for (String line : lines) {
            boolean fence = line.startsWith("```");
            if (example && line.equals(MADE)) {
                x = new WayShares();
            } else if (example && !fence) {
                shown.add(ask(x, line));
            }
            example = fence ? line.equals("```java") : example;
        }
        Check.due("calls that README.md shows", shown.toString(), face().toString());
        Check.finish("ReadmeTest");
    }

    private static String ask(WayShares x, String line) throws IllegalAccessException {
        Matcher call = CALL.matcher(line);
        if (x == null || !call.matches()) {
            Check.fail("README.md shows no call with an answer: " + line);
            return "";
        }
        Check.due("README.md: " + line, answer(x, call.group(1), call.group(2)), told(call.group(3)));
        return call.group(1);
    }

    private static String told(String answer) {
        return answer.replace("NONE", "" + WayShares.NONE).replace("HIDDEN", "" + WayShares.HIDDEN);
    }

    private static String answer(WayShares x, String name, String given) throws IllegalAccessException {
        String[] texts = given.isEmpty() ? new String[0] : given.split(", ");
        for (Method method : WayShares.class.getDeclaredMethods()) {
            if (method.getName().equals(name) && method.getParameterCount() == texts.length) {
                try {
                    return "" + method.invoke(x, numbers(method, texts));
                } catch (InvocationTargetException thrown) {
                    return "throws " + thrown.getCause().getClass().getSimpleName();
                }
            }
        }
        return "no such call";
    }

    private static Object[] numbers(Method method, String[] texts) {
        Object[] numbers = new Object[texts.length];
        for (int k = 0; k < texts.length; k++) {
            long number = Long.decode(told(texts[k]));
            boolean isLong = method.getParameterTypes()[k] == long.class;
            numbers[k] = isLong ? (Object) number : (Object) (int) number;
        }
        return numbers;
    }

    private static Set<String> face() {
        Set<String> names = new TreeSet<>();
        for (Method method : WayShares.class.getDeclaredMethods()) {
            if (Modifier.isPublic(method.getModifiers())) {
                names.add(method.getName());
            }
        }
        return names;
    }
}
