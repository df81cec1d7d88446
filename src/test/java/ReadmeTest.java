import java.io.IOException;
import java.lang.reflect.Field;
import java.lang.reflect.Method;
import java.lang.reflect.Modifier;
import java.nio.file.DirectoryStream;
import java.nio.file.Files;
import java.nio.file.Path;
import java.util.regex.Matcher;
import java.util.regex.Pattern;

/** README.md tells the truth: its examples are run, and it leaves out no call, no constant and no test. */
final class ReadmeTest {
    private static final Pattern EXAMPLE = Pattern.compile("(?s)```java\n(.*?)```");
    private static final Pattern CALL = Pattern.compile("x\\.(\\w+)\\(([-\\d, ]*)\\); +// (-?\\d+)(:.*)?");
    private static final Check check = new Check();

    public static void main(String[] args) throws IOException {
        String page = Files.readString(Path.of("README.md"));
        examples(page);
        namesAll(page);
        check.end();
    }

    private static void examples(String page) {
        int calls = 0;
        Matcher example = EXAMPLE.matcher(page);
        while (example.find()) {
            BidMosaic x = null;
            for (String line : example.group(1).split("\n")) {
                Matcher call = CALL.matcher(line);
                if (line.equals("BidMosaic x = new BidMosaic();")) {
                    x = new BidMosaic();
                } else if (x != null && call.matches()) {
                    check.due(line, Caller.make(x, call.group(1), numbers(call.group(2))), Integer.parseInt(call.group(3)));
                    calls++;
                } else {
                    check.holds("a line that can be run: " + line, false);
                }
            }
        }
        check.holds("examples are found: " + calls, calls > 30);
    }

    private static int[] numbers(String arguments) {
        String[] parts = arguments.isEmpty() ? new String[0] : arguments.split(", ");
        int[] numbers = new int[parts.length];
        for (int i = 0; i < parts.length; i++) {
            numbers[i] = Integer.parseInt(parts[i]);
        }
        return numbers;
    }

    private static void namesAll(String page) throws IOException {
        for (Method method : BidMosaic.class.getDeclaredMethods()) {
            if (Modifier.isPublic(method.getModifiers())) {
                check.holds(method.getName() + " has a row", page.matches("(?s).*\n\\|[^\n|]*`" + method.getName() + "\\(.*"));
            }
        }
        for (Field field : BidMosaic.class.getFields()) {
            check.holds(field.getName() + " is named", page.contains("`" + field.getName() + "`"));
        }
        try (DirectoryStream<Path> tests = Files.newDirectoryStream(Path.of("src/test/java"), "*Test.java")) {
            for (Path test : tests) {
                String name = test.getFileName().toString().replace(".java", "");
                check.holds(name + " has a row", page.matches("(?s).*\n\\|[^\n|]*`" + name + "`.*"));
            }
        }
    }
}
