import java.io.IOException;
import java.lang.reflect.Method;
import java.lang.reflect.Modifier;
import java.nio.file.DirectoryStream;
import java.nio.file.Files;
import java.nio.file.Path;
import java.util.regex.Matcher;
import java.util.regex.Pattern;

/** README.md says how to use the class and how to run its tests: what it says there is so. */
public final class ReadmeTest {
    private static final Pattern EXAMPLE = Pattern.compile("(?s)```java\n(.*?)```");
    private static final Pattern TEXT = Pattern.compile("\"([^\"]*)\"\\.toCharArray");
    private static final Pattern CALL = Pattern.compile("x\\.(\\w+)\\(([^)]*)\\);\\s+// (-?\\d+)");
    private static int wrong = 0;

    private static void is(boolean so, String what) {
        if (!so) {
            wrong++;
            System.out.println("README.md: " + what);
        }
    }

    private static Method method(String name) {
        for (Method m : CubeChecker.class.getMethods()) {
            if (m.getName().equals(name)) return m;
        }
        throw new IllegalArgumentException("no call " + name);
    }

    private static int call(CubeChecker x, String name, String numbers) throws ReflectiveOperationException {
        String[] parts = numbers.isEmpty() ? new String[0] : numbers.split(", *");
        Object[] given = new Object[parts.length];
        for (int i = 0; i < parts.length; i++) given[i] = Integer.valueOf(parts[i]);
        return (Integer) method(name).invoke(x, given);
    }

    private static void example(String readme) throws ReflectiveOperationException {
        Matcher block = EXAMPLE.matcher(readme);
        is(block.find(), "there is no example");
        CubeChecker x = new CubeChecker();
        int calls = 0;
        for (String line : block.group(1).split("\n")) {
            Matcher text = TEXT.matcher(line);
            if (text.find()) {
                for (char letter : text.group(1).toCharArray()) x.write(letter);
            }
            Matcher told = CALL.matcher(line);
            if (told.find()) {
                int got = call(x, told.group(1), told.group(2));
                is(got == Integer.parseInt(told.group(3)), line + " answered " + got);
                calls++;
            }
        }
        is(calls >= 10, "the example asks just " + calls + " times");
    }

    private static void names(String readme) throws IOException {
        for (Method m : CubeChecker.class.getDeclaredMethods()) {
            if (Modifier.isPublic(m.getModifiers())) {
                is(readme.contains("`" + m.getName() + "("), m.getName() + " is not told");
            }
        }
        try (DirectoryStream<Path> tests = Files.newDirectoryStream(Path.of("src/test/java"), "*.java")) {
            for (Path test : tests) {
                String name = test.getFileName().toString().replace("Test.java", "Test");
                is(readme.contains("`" + name + "`"), name + " is not told");
            }
        }
        is(readme.contains("`.ci/run`") && Files.isExecutable(Path.of(".ci/run")), ".ci/run");
    }

    public static void main(String[] args) throws IOException, ReflectiveOperationException {
        String readme = Files.readString(Path.of("README.md"));
        example(readme);
        names(readme);
        System.out.println(wrong == 0 ? "README.md says what is so" : wrong + " things are not so");
        if (wrong != 0) System.exit(1);
    }
}
