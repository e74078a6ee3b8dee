import java.io.IOException;
import java.lang.reflect.Method;
import java.lang.reflect.Modifier;
import java.nio.file.Files;
import java.nio.file.Path;
import java.util.List;
import java.util.regex.Matcher;
import java.util.regex.Pattern;
import java.util.stream.Collectors;
import java.util.stream.Stream;

/** README.md is so: the calls of its example answer as it says, and it names all calls, classes and tests. Starts in the root. */
final class ReadmeTest {
    private static final Pattern CALL = Pattern.compile("x\\.(\\w+)\\((.*)\\); +// (-?\\d+): .*");
    private static final Pattern FED = Pattern.compile(".*\"(.*)\".*");

    private ReadmeTest() {
    }

    public static void main(String[] args) throws IOException, ReflectiveOperationException {
        String readme = Files.readString(Path.of("README.md"));
        example(readme);
        calls(readme);
        classes(readme);
        tests(readme);
        Check.end();
    }

    private static void example(String readme) throws ReflectiveOperationException {
        int start = readme.indexOf("```java\n");
        int end = readme.indexOf("```\n", start + 8);
        Check.due("there is an example", 1, start >= 0 && end > start ? 1 : 0);
        SignTurn x = new SignTurn();
        for (String line : readme.substring(start + 8, end).split("\n")) {
            Matcher call = CALL.matcher(line);
            if (line.equals("SignTurn x = new SignTurn();")) {
                continue;
            }
            Check.due("a call with its answer: " + line, 1, call.matches() ? 1 : 0);
            int[] numbers = numbers(call.group(2));
            Check.due(line, Long.parseLong(call.group(3)), answer(x, call.group(1), numbers));
            if (call.group(1).equals("feed")) {
                fed(line, numbers);
            }
        }
    }

    private static int[] numbers(String told) {
        return Stream.of(told.split(", ")).filter(one -> !one.isEmpty()).mapToInt(Integer::decode).toArray();
    }

    private static long answer(SignTurn x, String name, int[] numbers) throws ReflectiveOperationException {
        for (Method method : SignTurn.class.getMethods()) {
            if (method.getName().equals(name)) {
                Object[] args = new Object[numbers.length];
                for (int i = 0; i < args.length; i++) {
                    boolean wide = method.getParameterTypes()[i] == long.class;
                    args[i] = wide ? (Object) Long.valueOf(numbers[i]) : (Object) Integer.valueOf(numbers[i]);
                }
                return ((Number) method.invoke(x, args)).longValue();
            }
        }
        throw new NoSuchMethodException(name);
    }

    /** The bytes are those of the text that stands behind the call, and blanks. */
    private static void fed(String line, int[] numbers) {
        StringBuilder bytes = new StringBuilder();
        for (int four : numbers) {
            for (int shift = 24; shift >= 0; shift -= 8) {
                bytes.append((char) (four >> shift & 255));
            }
        }
        Matcher text = FED.matcher(line);
        Check.due("the bytes of " + line, 1, text.matches() && bytes.toString().stripTrailing().equals(text.group(1).stripTrailing())
            ? 1 : 0);
    }

    private static void calls(String readme) {
        for (Method method : SignTurn.class.getDeclaredMethods()) {
            if (Modifier.isPublic(method.getModifiers())) {
                Check.due("README names " + method.getName(), 1, readme.contains("`" + method.getName() + "`") ? 1 : 0);
            }
        }
    }

    private static void classes(String readme) {
        for (Class<?> one : SignTurn.class.getDeclaredClasses()) {
            Check.due("README names the class " + one.getSimpleName(), 1, readme.contains("`" + one.getSimpleName() + "`") ? 1 : 0);
        }
    }

    private static void tests(String readme) throws IOException {
        List<Path> files;
        try (Stream<Path> all = Files.list(Path.of("src/test/java"))) {
            files = all.collect(Collectors.toList());
        }
        for (Path file : files) {
            String name = file.getFileName().toString().replace(".java", "");
            Check.due("README names " + name, 1, readme.contains("`" + name + "`") ? 1 : 0);
        }
    }
}
