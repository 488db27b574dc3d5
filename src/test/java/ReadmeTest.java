import java.io.IOException;
import java.lang.reflect.Field;
import java.lang.reflect.InvocationTargetException;
import java.lang.reflect.Method;
import java.lang.reflect.Modifier;
import java.nio.file.Files;
import java.nio.file.Path;
import java.util.Arrays;
import java.util.List;
import java.util.regex.Matcher;
import java.util.regex.Pattern;
import java.util.stream.Collectors;
import java.util.stream.Stream;

/** README.md tells what is so: its example, the names and the constants on it. */
public final class ReadmeTest {
    private static final Pattern CALL =
            Pattern.compile("(int number = )?bus\\.(\\w+)\\(([^)]*)\\); *// (-?\\d+): .*");

    public static void main(String[] args) throws IOException, ReflectiveOperationException {
        String page = Files.readString(Path.of("README.md"));
        example(page);
        methods(page);
        constants(page);
        tests(page);
        theText();
        Due.end();
    }

    /** Makes each call of the example; what it answers stands at the head of its comment. */
    private static void example(String page) throws ReflectiveOperationException {
        int begin = page.indexOf("```java\n");
        List<String> lines = page.substring(begin + 8, page.indexOf("```", begin + 8)).lines().toList();
        Due.same("the first line of the example", lines.get(0), "TagBus bus = new TagBus();");
        Due.is("the example has calls", lines.size() > 5 ? 1 : 0, 1);
        TagBus bus = new TagBus();
        int number = TagBus.NONE;
        for (String line : lines.subList(1, lines.size())) {
            Matcher call = CALL.matcher(line);
            Due.is("can be read: " + line, call.matches() ? 1 : 0, 1);
            if (call.matches()) {
                int got = answer(bus, call.group(2), call.group(3), number);
                Due.is(line, got, Integer.parseInt(call.group(4)));
                number = call.group(1) == null ? number : got;
            }
        }
    }

    private static int answer(TagBus bus, String name, String told, int number) throws ReflectiveOperationException {
        Object[] values = Stream.of(told.split(", *")).filter(word -> !word.isEmpty())
                .map(word -> word.equals("number") ? Integer.valueOf(number) : Integer.valueOf(word)).toArray();
        Class<?>[] types = new Class<?>[values.length];
        Arrays.fill(types, int.class);
        try {
            return (Integer) TagBus.class.getMethod(name, types).invoke(bus, values);
        } catch (InvocationTargetException thrown) {
            throw new IllegalStateException(name + " threw", thrown);
        }
    }

    private static void methods(String page) {
        for (Method method : TagBus.class.getDeclaredMethods()) {
            if (Modifier.isPublic(method.getModifiers())) {
                Due.is("README.md names " + method.getName(), page.contains("`" + method.getName() + "`") ? 1 : 0, 1);
            }
        }
    }

    private static void constants(String page) throws ReflectiveOperationException {
        for (Field field : TagBus.class.getDeclaredFields()) {
            if (Modifier.isPublic(field.getModifiers())) {
                String row = "| `" + field.getName() + "` | " + field.getInt(null) + " |";
                Due.is("README.md tells " + row, page.contains(row) ? 1 : 0, 1);
            }
        }
    }

    private static void tests(String page) throws IOException {
        try (Stream<Path> files = Files.list(Path.of("src/test/java"))) {
            List<String> names = files.map(file -> file.getFileName().toString().replace(".java", ""))
                    .filter(name -> name.endsWith("Test")).collect(Collectors.toList());
            for (String name : names) {
                Due.is("README.md names " + name, page.contains("| `" + name + "` |") ? 1 : 0, 1);
            }
        }
    }

    /** The text on the page is a good one, and asks what the page says. */
    private static void theText() throws IOException {
        String text = "0>1w5=42;2>1r10";
        Due.is("README.md shows " + text, Files.readString(Path.of("README.md")).contains("`" + text + "`") ? 1 : 0, 1);
        TagBus bus = new TagBus();
        Due.type(bus, text);
        Due.is("ask() of " + text, bus.ask(), 2);
        int[][] due = {{0, 1, 5, 42}, {2, 1, 10, TagBus.NONE}};
        for (int number = 0; number < due.length; number++) {
            for (int what = 0; what < 4; what++) {
                Due.is("question(" + number + ", " + what + ")", bus.question(number, what), due[number][what]);
            }
        }
    }
}
