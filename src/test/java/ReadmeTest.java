import java.lang.reflect.Method;
import java.nio.file.Files;
import java.nio.file.Path;
import java.util.regex.Matcher;
import java.util.regex.Pattern;

// Makes the calls of README.md's example: each must answer what stands behind it.
public final class ReadmeTest {
    private static final Pattern CALL = Pattern.compile("field\\.(\\w+)\\((.*)\\);\\s*// (-?\\w+).*");

    public static void main(String[] args) throws Exception {
        String readme = Files.readString(Path.of("README.md"));
        int from = readme.indexOf("```java");
        int to = readme.indexOf("```\n", from + 1);
        Due due = new Due();
        due.about("README.md");
        due.is("the example begins and ends", from >= 0 && to > from ? 1 : 0, 1);
        EarField field = new EarField();
        for (String line : readme.substring(from, to).split("\n")) {
            if (!line.startsWith("field.")) continue;
            Matcher call = CALL.matcher(line);
            if (call.matches()) due.is(line, answer(field, call.group(1), call.group(2)), told(call.group(3)));
            else due.is("a call without its answer: " + line, 0, 1);
        }
        due.end("ReadmeTest");
    }

    private static long answer(EarField field, String name, String list) throws Exception {
        for (Method method : EarField.class.getMethods()) {
            if (!method.getName().equals(name) || method.getDeclaringClass() != EarField.class) continue;
            Class<?>[] types = method.getParameterTypes();
            String[] words = list.isEmpty() ? new String[0] : list.split(", ");
            Object[] values = new Object[words.length];
            for (int i = 0; i < words.length; i++) values[i] = value(types[i], words[i]);
            return ((Number) method.invoke(field, values)).longValue();
        }
        throw new IllegalArgumentException("no such call: " + name);
    }

    private static Object value(Class<?> type, String word) {
        if (type == boolean.class) return Boolean.valueOf(word);
        if (type == int.class) return Integer.valueOf(word);
        return Long.decode(word.replaceAll("L", ""));
    }

    private static long told(String word) throws Exception {
        if (word.matches("-?[0-9]+")) return Long.parseLong(word);
        return EarField.class.getField(word).getInt(null);
    }
}
