import java.io.IOException;
import java.lang.reflect.Field;
import java.lang.reflect.Method;
import java.lang.reflect.Modifier;
import java.nio.file.Files;
import java.nio.file.Path;
import java.util.List;
import java.util.regex.Matcher;
import java.util.regex.Pattern;
import java.util.stream.Stream;

/** README.md tells the class and its tests as they are: each call of its examples is made here. */
public final class ReadmeTest {
    private static final Path README = Path.of("README.md");
    private static final Path TESTS = Path.of("src/test/java");
    private static final String NEW_OBJECT = "InterleaveExplorer x = new InterleaveExplorer();";
    private static final Pattern CALL = Pattern.compile("x\\.(\\w+)\\(([-\\d, ]*)\\); +// ([-\\w]+)(:.*)?");

    public static void main(String[] args) throws IOException, ReflectiveOperationException {
        runExamples(Files.readAllLines(README));
        String text = Files.readString(README);
        namesEveryMember(text);
        namesEveryTest(text);
        Due.end();
    }

    private static void runExamples(List<String> lines) throws ReflectiveOperationException {
        InterleaveExplorer x = null;
        boolean inExample = false;
        for (String line : lines) {
            if (line.startsWith("```")) {
                inExample = line.equals("```java");
            } else if (inExample && line.equals(NEW_OBJECT)) {
                x = new InterleaveExplorer();
            } else if (inExample && !line.isEmpty()) {
                runCall(x, line);
            }
        }
        Due.yes("README.md has an example", x != null);
    }

    private static void runCall(InterleaveExplorer x, String line) throws ReflectiveOperationException {
        Matcher call = CALL.matcher(line);
        boolean readable = call.matches();
        Due.yes("README.md: a call with its answer: " + line, readable);
        if (readable) {
            String due = call.group(3);
            String got = told(answer(x, call.group(1), call.group(2)), due);
            Due.yes("README.md: " + got + " is the answer told by: " + line, got.equals(due));
        }
    }

    private static Object answer(InterleaveExplorer x, String name, String numbers)
            throws ReflectiveOperationException {
        Object[] values = Stream.of(numbers.split(", *")).filter(n -> !n.isEmpty()).map(Integer::valueOf).toArray();
        for (Method method : InterleaveExplorer.class.getDeclaredMethods()) {
            if (method.getName().equals(name) && Modifier.isPublic(method.getModifiers())) {
                return method.invoke(x, values);
            }
        }
        return "no such call";
    }

    /** The answer as README.md would tell it: by a constant's name where it gives a name. */
    private static String told(Object got, String due) throws ReflectiveOperationException {
        if (!due.matches("[A-Z_]+")) {
            return got.toString();
        }
        return InterleaveExplorer.class.getField(due).get(null).equals(got) ? due : got.toString();
    }

    private static void namesEveryMember(String text) {
        for (Method method : InterleaveExplorer.class.getDeclaredMethods()) {
            if (Modifier.isPublic(method.getModifiers())) {
                Due.yes("README.md tells " + method.getName(), text.contains("`" + method.getName() + "("));
            }
        }
        for (Field constant : InterleaveExplorer.class.getFields()) {
            Due.yes("README.md tells " + constant.getName(), text.contains("`" + constant.getName() + "`"));
        }
    }

    private static void namesEveryTest(String text) throws IOException {
        try (Stream<Path> files = Files.list(TESTS)) {
            files.map(file -> file.getFileName().toString()).filter(name -> name.endsWith("Test.java")).forEach(name ->
                    Due.yes("README.md tells " + name, text.contains("| `" + name.replace(".java", "") + "` |")));
        }
    }
}
