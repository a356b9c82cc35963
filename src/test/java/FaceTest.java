import java.io.IOException;
import java.lang.reflect.Constructor;
import java.lang.reflect.Field;
import java.lang.reflect.Method;
import java.lang.reflect.Modifier;
import java.nio.file.Files;
import java.nio.file.Path;
import java.util.Arrays;
import java.util.Set;
import java.util.TreeSet;

/** The public face is the document's, and what of ../shared/LANGUAGE.md a test can see is kept. */
public final class FaceTest {
    private static final String[] FACE = {
        "int feed(int,int,int,int,int)", "boolean end(int)", "int fault(int)", "int text(int)", "int rider(int,int)",
        "int way(int,int)", "int between(int,int)", "boolean move(int,int)", "boolean dig(int,int)", "boolean feet(int)",
        "int cost(int,int)", "long share(int,int,int,int)", "int worse(int,int)", "long complaint(int,int)",
        "int order(int,int,int)", "int ride(int,int,int)", "int coaches(int)", "int steady(int,int)", "int left(int)",
        "long lie(int,int,int)", "int bridge(int)", "int see(int,int,int)", "int fits(int)", "int night(int,int)",
        "int drawn(int,int,long)", "long paid(int)", "int undo()", "int image()", "int back()", "int count(int)",
    };
    private static final String[] NOT_IN_THE_LANGUAGE = {"->", "::", "try", "catch", "finally", "synchronized", "assert",
        "instanceof", "package ", "Map", "Random", "Exact", "protected", "System.out", "System.nano", "Thread", "@"};

    public static void main(String[] args) throws IOException {
        face();
        classes(WayShares.class);
        for (Class<?> inside : WayShares.class.getDeclaredClasses()) {
            int modifiers = inside.getModifiers();
            Check.due(inside + " is static", Modifier.isStatic(modifiers), true);
            Check.due(inside + " is not public", Modifier.isPublic(modifiers) || Modifier.isProtected(modifiers), false);
            classes(inside);
        }
        Check.due("classes are twelve at most", WayShares.class.getDeclaredClasses().length + 1 <= 12, true);
        source();
        Check.finish("FaceTest");
    }

    private static void face() {
        Check.due("public and final", WayShares.class.getModifiers(), Modifier.PUBLIC | Modifier.FINAL);
        Set<String> open = new TreeSet<>();
        Set<String> names = new TreeSet<>();
        for (Method method : WayShares.class.getDeclaredMethods()) {
            if (!Modifier.isPrivate(method.getModifiers()) && !method.isSynthetic()) {
                open.add(told(method));
                names.add(method.getName());
                Check.due(method + " throws", method.getExceptionTypes().length, method.getName().equals("rider") ? 1 : 0);
                Check.due(method + " is public", method.getModifiers(), Modifier.PUBLIC);
            }
        }
        Check.due("the face", open.toString(), new TreeSet<>(Arrays.asList(FACE)).toString());
        for (Method method : WayShares.class.getDeclaredMethods()) {
            boolean hidden = Modifier.isPrivate(method.getModifiers());
            Check.due(method + " bears a public name", hidden && names.contains(method.getName()), false);
        }
        for (Class<?> inside : WayShares.class.getDeclaredClasses()) {
            for (Method method : inside.getDeclaredMethods()) {
                Check.due(method + " bears a public name", names.contains(method.getName()), false);
            }
        }
        Constructor<?>[] constructors = WayShares.class.getDeclaredConstructors();
        Check.due("one constructor", constructors.length, 1);
        Check.due("without parameters", constructors[0].getParameterCount(), 0);
        Set<String> fields = new TreeSet<>();
        for (Field field : WayShares.class.getDeclaredFields()) {
            if (!Modifier.isPrivate(field.getModifiers())) {
                fields.add(field.getName());
            }
        }
        Check.due("public constants", fields.toString(), "[HIDDEN, NONE]");
    }

    private static String told(Method method) {
        StringBuilder told = new StringBuilder(method.getReturnType().getName());
        told.append(' ').append(method.getName()).append('(');
        for (Class<?> type : method.getParameterTypes()) {
            told.append(told.charAt(told.length() - 1) == '(' ? "" : ",").append(type.getName());
        }
        return told.append(')').toString();
    }

    private static void classes(Class<?> one) {
        int fields = 0;
        for (Field field : one.getDeclaredFields()) {
            boolean isStatic = Modifier.isStatic(field.getModifiers());
            fields += isStatic ? 0 : 1;
            Check.due(field + " is final", isStatic && !Modifier.isFinal(field.getModifiers()), false);
        }
        Check.due(one + " has twenty fields at most", fields <= 20, true);
        for (Method method : one.getDeclaredMethods()) {
            Check.due(method + " takes seven at most", method.getParameterCount() <= 7, true);
        }
    }

    private static void source() throws IOException {
        String source = Files.readString(Path.of("src/main/java/WayShares.java"));
        for (String sign : NOT_IN_THE_LANGUAGE) {
            Check.due("'" + sign + "' stands in the program", source.contains(sign), false);
        }
        for (String line : source.split("\n")) {
            boolean known = line.equals("import java.util.Arrays;") || line.equals("import java.util.NoSuchElementException;");
            Check.due(line, line.startsWith("import") && !known, false);
        }
        Check.due("signs are below 128", source.chars().allMatch(sign -> sign < 128), true);
    }
}
