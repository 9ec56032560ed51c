import java.io.IOException;
import java.lang.reflect.Field;
import java.lang.reflect.Method;
import java.lang.reflect.Modifier;
import java.nio.file.Files;
import java.nio.file.Path;
import java.util.regex.Matcher;
import java.util.regex.Pattern;

/** README.md's examples are run, and its lists are held against the class. */
public final class ReadmeTest {
    private static final Due DUE = new Due("ReadmeTest");
    private static final Pattern EXAMPLE = Pattern.compile("x\\.(\\w+)\\((.*)\\);\\s*// (-?\\d+)\\b.*");

    public static void main(String[] args) throws IOException, ReflectiveOperationException {
        String text = Files.readString(Path.of("README.md"));
        examples(text);
        calls(text);
        constants(text);
        DUE.end();
    }

    private static void examples(String text) throws ReflectiveOperationException {
        LikeNets x = null;
        for (String line : text.lines().toList()) {
            Matcher example = EXAMPLE.matcher(line);
            if (line.equals("LikeNets x = new LikeNets();")) {
                x = new LikeNets();
            } else if (example.matches()) {
                DUE.is(line, answer(x, example.group(1), example.group(2)), Long.parseLong(example.group(3)));
            } else {
                DUE.is("an example says what it answers: " + line, line.startsWith("x."), false);
            }
        }
    }

    private static long answer(LikeNets x, String name, String list) throws ReflectiveOperationException {
        String[] words = list.isEmpty() ? new String[0] : list.split(", ");
        Object[] numbers = new Object[words.length];
        for (int i = 0; i < words.length; i++) {
            numbers[i] = argument(words[i]);
        }
        return ((Number) call(name).invoke(x, numbers)).longValue();
    }

    private static Object argument(String word) {
        if (word.equals("true") || word.equals("false")) {
            return Boolean.valueOf(word);
        }
        return Integer.valueOf(word);
    }

    private static Method call(String name) throws NoSuchMethodException {
        for (Method method : LikeNets.class.getDeclaredMethods()) {
            if (method.getName().equals(name)) {
                return method;
            }
        }
        throw new NoSuchMethodException(name);
    }

    private static void calls(String text) {
        for (Method method : LikeNets.class.getDeclaredMethods()) {
            if (Modifier.isPublic(method.getModifiers())) {
                DUE.is("names " + method.getName(), text.contains("`" + method.getName() + "`"), true);
            }
        }
    }

    private static void constants(String text) throws IllegalAccessException {
        for (Field field : LikeNets.class.getDeclaredFields()) {
            if (Modifier.isPublic(field.getModifiers())) {
                String row = "| `" + field.getName() + "` | " + field.getInt(null) + " |";
                DUE.is("tells " + field.getName(), text.contains(row), true);
            }
        }
    }
}
