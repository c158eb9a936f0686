import java.io.IOException;
import java.lang.reflect.Method;
import java.lang.reflect.Modifier;
import java.nio.file.Files;
import java.nio.file.Path;
import java.util.Set;
import java.util.TreeSet;
import java.util.regex.Matcher;
import java.util.regex.Pattern;

/** Makes the calls of README.md's example and compares each answer with the one written behind it. */
public final class ReadmeTest {
    private static final String NEW = "StableModels x = new StableModels();";
    private static final Pattern CALL = Pattern.compile("x\\.(\\w+)\\(([^)]*)\\);\\s*// (-?\\w+).*");

    private static int wrong = 0;

    private static void fault(String what) {
        wrong++;
        System.out.println(what);
    }

    private static String example() throws IOException {
        String text = Files.readString(Path.of("README.md"));
        int start = text.indexOf("```java\n");
        int end = text.indexOf("\n```", start + 1);
        return start < 0 || end < 0 ? "" : text.substring(start + "```java\n".length(), end);
    }

    private static Object argument(String text) throws ReflectiveOperationException {
        String constant = "StableModels.";
        if (text.startsWith(constant)) {
            return StableModels.class.getField(text.substring(constant.length())).getInt(null);
        }
        return Integer.parseInt(text);
    }

    private static Object answer(StableModels x, String name, String list) throws ReflectiveOperationException {
        String[] texts = list.isEmpty() ? new String[0] : list.split(", ");
        Object[] arguments = new Object[texts.length];
        Class<?>[] types = new Class<?>[texts.length];
        for (int i = 0; i < texts.length; i++) {
            arguments[i] = argument(texts[i]);
            types[i] = int.class;
        }
        return StableModels.class.getMethod(name, types).invoke(x, arguments);
    }

    private static Set<String> publicMethods() {
        Set<String> names = new TreeSet<>();
        for (Method method : StableModels.class.getDeclaredMethods()) {
            if (Modifier.isPublic(method.getModifiers())) {
                names.add(method.getName());
            }
        }
        return names;
    }

    public static void main(String[] args) throws IOException, ReflectiveOperationException {
        StableModels x = new StableModels();
        Set<String> unused = publicMethods();
        for (String line : example().split("\n")) {
            Matcher call = CALL.matcher(line);
            if (call.matches()) {
                String got = String.valueOf(answer(x, call.group(1), call.group(2)));
                unused.remove(call.group(1));
                if (!got.equals(call.group(3))) {
                    fault("README.md: " + line + " answered " + got);
                }
            } else if (!line.equals(NEW)) {
                fault("README.md has a line that is no call with its answer: " + line);
            }
        }
        if (!unused.isEmpty()) {
            fault("README.md's example lacks " + unused);
        }
        System.out.println(wrong == 0 ? "the example is right" : wrong + " faults");
        if (wrong != 0) {
            System.exit(1);
        }
    }
}
