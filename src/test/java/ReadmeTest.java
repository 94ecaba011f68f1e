import java.lang.reflect.Method;
import java.nio.file.Files;
import java.nio.file.Path;
import java.util.Set;
import java.util.TreeSet;
import java.util.regex.Matcher;
import java.util.regex.Pattern;

/** The example of README.md answers as is told there, and no call of the face is left out. */
public final class ReadmeTest {
    private static final Check CHECK = new Check();
    private static final Pattern TEXT = Pattern.compile("\"([^\"]*)\"\\.toCharArray");
    private static final Pattern CALL = Pattern.compile("(?m)^x\\.(\\w+)\\(([^)]*)\\);\\s*// (-?\\d+):");

    public static void main(String[] args) throws Exception {
        String readme = Files.readString(Path.of("README.md"));
        example(readme);
        names(readme);
        CHECK.end();
    }

    private static void example(String readme) throws Exception {
        int from = readme.indexOf("```java");
        int to = readme.indexOf("```", from + 3);
        CHECK.holds("there is an example", from >= 0 && to > from);
        String example = readme.substring(from, to);
        Matcher text = TEXT.matcher(example);
        CHECK.holds("the example tells a text", text.find());
        FilmCans x = new FilmCans();
        Check.feed(x, text.group(1));
        Matcher call = CALL.matcher(example);
        int calls = 0;
        while (call.find()) {
            calls++;
            CHECK.due(call.group(), answer(x, call.group(1), call.group(2)), Long.parseLong(call.group(3)));
        }
        long lines = example.lines().filter(line -> line.startsWith("x.")).count();
        CHECK.due("each call of the example tells its answer", calls, lines);
    }

    private static long answer(FilmCans x, String name, String numbers) throws Exception {
        String[] given = numbers.isBlank() ? new String[0] : numbers.split(", ");
        Class<?>[] types = new Class<?>[given.length];
        Object[] values = new Object[given.length];
        for (int i = 0; i < given.length; i++) {
            types[i] = int.class;
            values[i] = Integer.valueOf(given[i]);
        }
        return ((Number) FilmCans.class.getMethod(name, types).invoke(x, values)).longValue();
    }

    private static void names(String readme) {
        Set<String> names = new TreeSet<>();
        for (Method method : FilmCans.class.getMethods()) {
            if (method.getDeclaringClass() == FilmCans.class) {
                names.add(method.getName());
            }
        }
        for (String name : names) {
            CHECK.holds("README.md names " + name, readme.contains("`" + name + "`"));
        }
    }
}
