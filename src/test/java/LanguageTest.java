import java.io.IOException;
import java.lang.reflect.Constructor;
import java.lang.reflect.Field;
import java.lang.reflect.Method;
import java.lang.reflect.Modifier;
import java.nio.file.Files;
import java.nio.file.Path;
import java.util.ArrayList;
import java.util.List;
import java.util.Set;
import java.util.regex.Matcher;
import java.util.regex.Pattern;
import java.util.stream.Stream;

/** The rules of LANGUAGE.md that can be read off the source or the compiled class. */
public final class LanguageTest {
    private static final Path FOLDER = Path.of("src/main/java");
    private static final Set<String> IMPORTS = Set.of("java.util.ArrayList", "java.util.List",
            "java.util.Arrays", "java.util.Iterator", "java.util.NoSuchElementException");
    /** The rules leave none of these, or the document gives no use for them (try, catch, throw). */
    private static final String[] WORDS = {"synchronized", "assert", "finally", "try", "catch", "throw", "throws",
        "record", "sealed", "var", "yield", "volatile", "native", "Object", "Class", "Thread", "Random", "Runtime",
        "Exception", "Error", "hashCode", "toString", "getClass", "random", "nanoTime", "currentTimeMillis", "System",
        "Map", "HashMap", "Set", "HashSet", "Stream", "Optional", "Override", "double", "float"};
    private static final int MOST_LINES = 60;
    private static final int MOST_PARAMETERS = 7;
    private static final int MOST_CLASSES = 12;
    private static final int MOST_FIELDS = 20;

    private final Checks checks = new Checks();

    public static void main(String[] args) throws IOException {
        LanguageTest test = new LanguageTest();
        String source = Files.readString(FOLDER.resolve("CatalogVolume.java"));
        test.oneFile();
        test.text(source);
        test.lengths(source.split("\n"));
        test.classes();
        test.checks.close();
    }

    private void oneFile() throws IOException {
        try (Stream<Path> files = Files.walk(FOLDER)) {
            checks.due("files of the program", 1, files.filter(Files::isRegularFile).count());
        }
    }

    private void text(String source) {
        checks.due("rule 3: characters above 127", 0, source.chars().filter(c -> c > 127).count());
        String code = withoutComments(source);
        checks.due("package line", false, find("^\\s*package\\b", code));
        Matcher imported = Pattern.compile("^import ([^;]*);", Pattern.MULTILINE).matcher(code);
        while (imported.find()) {
            checks.due("rule 4: import " + imported.group(1), true, IMPORTS.contains(imported.group(1)));
        }
        checks.due("rule 2: a lambda or an arrow", false, code.contains("->"));
        checks.due("rule 2: a method reference", false, code.contains("::"));
        checks.due("rule 5: a static initialiser block", false, find("\\bstatic\\s*\\{", code));
        checks.due("rule 9: a loop without a condition", false, find("for\\s*\\(\\s*;|while\\s*\\(\\s*true|;\\s*;", code));
        checks.due("rule 10: a text", false, code.contains("\""));
        for (String word : WORDS) {
            checks.due("the word " + word, false, find("\\b" + word + "\\b", code));
        }
    }

    private static boolean find(String pattern, String code) {
        return Pattern.compile(pattern, Pattern.MULTILINE).matcher(code).find();
    }

    private static String withoutComments(String source) {
        return source.replaceAll("(?s)/\\*.*?\\*/", "").replaceAll("//[^\n]*", "");
    }

    /** A method ends with the first closing brace that stands as deep as its head. */
    private void lengths(String[] lines) {
        Pattern head = Pattern.compile("( {4}| {8})[^ /*@}].*\\) \\{");
        int methods = 0;
        for (int i = 0; i < lines.length; i++) {
            Matcher found = head.matcher(lines[i]);
            if (found.matches()) {
                int end = i;
                while (end < lines.length && !lines[end].equals(found.group(1) + "}")) {
                    end++;
                }
                checks.due("rule 11: lines of " + lines[i].strip(), true, end - i < MOST_LINES);
                methods++;
            }
        }
        checks.due("rule 11: methods were looked at", true, methods > 20);
    }

    private void classes() {
        List<Class<?>> all = new ArrayList<>(List.of(CatalogVolume.class));
        for (int i = 0; i < all.size(); i++) {
            all.addAll(List.of(all.get(i).getDeclaredClasses()));
        }
        checks.due("rule 11: classes, " + all.size(), true, all.size() <= MOST_CLASSES);
        for (Class<?> one : all) {
            if (one != CatalogVolume.class) {
                int shape = one.getModifiers();
                checks.due("rule 1: " + one + " is not public or protected", false,
                        Modifier.isPublic(shape) || Modifier.isProtected(shape));
                checks.due("rule 1: " + one + " is static", true, Modifier.isStatic(shape));
            }
            fields(one);
            parameters(one);
        }
    }

    private void fields(Class<?> one) {
        int own = 0;
        for (Field field : one.getDeclaredFields()) {
            if (Modifier.isStatic(field.getModifiers())) {
                checks.due("rule 5: " + field + " is final", true, Modifier.isFinal(field.getModifiers()));
                checks.due("rule 5: " + field + " is a number", true, field.getType() == int.class);
            } else {
                own++;
            }
        }
        checks.due("rule 11: fields of " + one + ", " + own, true, own <= MOST_FIELDS);
    }

    private void parameters(Class<?> one) {
        for (Method method : one.getDeclaredMethods()) {
            checks.due("rule 11: parameters of " + method, true, method.getParameterCount() <= MOST_PARAMETERS);
        }
        for (Constructor<?> made : one.getDeclaredConstructors()) {
            checks.due("rule 11: parameters of " + made, true, made.getParameterCount() <= MOST_PARAMETERS);
        }
    }
}
