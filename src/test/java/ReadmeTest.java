import java.io.IOException;
import java.lang.reflect.Method;
import java.nio.file.Files;
import java.nio.file.Path;
import java.util.List;
import java.util.regex.Matcher;
import java.util.regex.Pattern;
import java.util.stream.Stream;

/** README.md is as the class is: its example's calls answer what it says, and it names every call and every test. */
public final class ReadmeTest {
    private static final Pattern CALL = Pattern.compile("x\\.(\\w+)\\(([^)]*)\\);\\s*// (-?\\d+).*");

    private ReadmeTest() {
    }

    public static void main(String[] args) throws IOException, ReflectiveOperationException {
        String readme = Files.readString(Path.of("README.md"));
        example(readme);
        calls(readme);
        tests(readme);
        Checks.end();
    }

    private static void example(String readme) throws ReflectiveOperationException {
        String from = "```java\n";
        int start = readme.indexOf(from);
        int end = readme.indexOf("```", start + from.length());
        Checks.holds("an example", start >= 0 && end > start);
        List<String> lines = readme.substring(start + from.length(), end).lines().toList();
        Checks.holds("the object first", lines.get(0).startsWith("LightPlate x = new LightPlate(1);"));
        LightPlate x = new LightPlate(1);
        for (String line : lines.subList(1, lines.size())) {
            if (line.isEmpty() || line.startsWith("//")) continue;
            Matcher m = CALL.matcher(line);
            Checks.holds("a call with its answer: " + line, m.matches());
            Checks.due(line, answer(x, m.group(1), m.group(2)), Integer.parseInt(m.group(3)));
        }
    }

    private static int answer(LightPlate x, String name, String numbers) throws ReflectiveOperationException {
        Method method = named(name);
        String[] parts = numbers.isEmpty() ? new String[0] : numbers.split(", ");
        Class<?>[] types = method.getParameterTypes();
        Checks.due("numbers of " + name, parts.length, types.length);
        Object[] given = new Object[types.length];
        for (int i = 0; i < given.length; i++) {
            long number = Long.decode(parts[i].replace("L", ""));
            if (types[i] == long.class) given[i] = number;
            else given[i] = (int) number;
        }
        return (int) method.invoke(x, given);
    }

    private static Method named(String name) throws NoSuchMethodException {
        for (Method m : LightPlate.class.getDeclaredMethods()) {
            if (m.getName().equals(name)) return m;
        }
        throw new NoSuchMethodException(name);
    }

    private static void calls(String readme) throws IOException {
        String source = Files.readString(Path.of("src/main/java/LightPlate.java"));
        Matcher heads = Pattern.compile("public int (\\w+)\\(([^)]*)\\)").matcher(source);
        int found = 0;
        while (heads.find()) {
            String call = heads.group(1) + "(" + heads.group(2).replaceAll("(int|long) ", "") + ")";
            Checks.holds("README.md tells " + call, readme.contains("| `" + call + "` | "));
            found++;
        }
        Checks.due("calls", found, 30);
    }

    private static void tests(String readme) throws IOException {
        try (Stream<Path> files = Files.list(Path.of("src/test/java"))) {
            for (Path file : files.toList()) {
                String name = file.getFileName().toString().replace(".java", "");
                if (name.endsWith("Test")) Checks.holds("README.md tells " + name, readme.contains("`" + name + "`"));
            }
        }
    }
}
