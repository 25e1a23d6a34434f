import java.io.IOException;
import java.lang.reflect.Field;
import java.lang.reflect.Method;
import java.lang.reflect.Modifier;
import java.nio.file.Files;
import java.nio.file.Path;
import java.util.HashMap;
import java.util.Map;
import java.util.regex.Matcher;
import java.util.regex.Pattern;

/** The README's example answers what its comments say, and its tables name the whole face. */
public final class ReadmeTest {
    private static final Pattern CALL = Pattern.compile(
            "(?:int (\\w+) = )?volume\\.(\\w+)\\(([^)]*)\\); +// (-?\\d+|true|false)\\b.*");

    private final Checks checks = new Checks();
    private final CatalogVolume volume = new CatalogVolume();
    private final Map<String, Integer> variables = new HashMap<>();

    public static void main(String[] args) throws IOException, ReflectiveOperationException {
        String text = Files.readString(Path.of("README.md"));
        ReadmeTest test = new ReadmeTest();
        test.example(text);
        test.tables(text);
        test.checks.close();
    }

    private void example(String text) throws ReflectiveOperationException {
        int begin = text.indexOf("```java\n") + "```java\n".length();
        String[] lines = text.substring(begin, text.indexOf("```", begin)).split("\n");
        int calls = 0;
        for (String line : lines) {
            Matcher call = CALL.matcher(line);
            if (call.matches()) {
                play(line, call);
                calls++;
            } else {
                boolean known = line.isEmpty() || line.startsWith("CatalogVolume volume = new CatalogVolume();");
                checks.due("README line that is no call with its answer: " + line, true, known);
            }
        }
        checks.due("the README has an example", true, calls > 0);
    }

    private void play(String line, Matcher call) throws ReflectiveOperationException {
        String[] words = call.group(3).isEmpty() ? new String[0] : call.group(3).split(", ");
        Method method = faceMethod(call.group(2), words.length);
        Object[] values = new Object[words.length];
        for (int i = 0; i < words.length; i++) {
            boolean isNumber = method.getParameterTypes()[i] == int.class;
            values[i] = isNumber ? (Object) number(words[i]) : (Object) Boolean.valueOf(words[i]);
        }
        Object answer = method.invoke(volume, values);
        checks.due("README: " + line + " answered " + answer + ", so it", true,
                answer.toString().equals(call.group(4)));
        if (call.group(1) != null) {
            variables.put(call.group(1), (Integer) answer);
        }
    }

    private int number(String word) {
        return variables.containsKey(word) ? variables.get(word) : Integer.parseInt(word);
    }

    private static Method faceMethod(String name, int parameters) throws NoSuchMethodException {
        for (Method method : CatalogVolume.class.getMethods()) {
            if (method.getName().equals(name) && method.getParameterCount() == parameters) {
                return method;
            }
        }
        throw new NoSuchMethodException("the README calls " + name + " with " + parameters + " arguments");
    }

    private void tables(String text) throws IllegalAccessException {
        for (Method method : CatalogVolume.class.getDeclaredMethods()) {
            if (Modifier.isPublic(method.getModifiers())) {
                boolean named = Pattern.compile("^\\|[^|]*`" + method.getName() + "\\(", Pattern.MULTILINE)
                        .matcher(text).find();
                checks.due("README's table names " + method.getName(), true, named);
            }
        }
        for (Field field : CatalogVolume.class.getDeclaredFields()) {
            if (Modifier.isPublic(field.getModifiers())) {
                String row = "| `" + field.getName() + "` | " + field.getInt(null) + " |";
                checks.due("README's table has " + row, true, text.contains(row));
            }
        }
    }
}
