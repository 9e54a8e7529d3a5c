import java.io.IOException;
import java.lang.reflect.Method;
import java.lang.reflect.Modifier;
import java.nio.file.DirectoryStream;
import java.nio.file.Files;
import java.nio.file.Path;
import java.util.regex.Matcher;
import java.util.regex.Pattern;

/** README.md tells how to use the class: what its example says must be so. */
public final class ReadmeTest {
    private static final Pattern CALL = Pattern.compile("index\\.(\\w+)\\((.*?)\\); +// (-?\\d+)(:.*)?");

    public static void main(String[] args) throws IOException {
        String text = Files.readString(Path.of("README.md"));
        example(text);
        namesEveryCall(text);
        namesEveryTest(text);
        Check.finish("ReadmeTest");
    }

    private static void example(String text) {
        SuffixIndex index = new SuffixIndex();
        String code = text.substring(text.indexOf("```java"));
        int calls = 0;
        for (String line : code.substring(0, code.indexOf("```\n")).split("\n")) {
            Matcher call = CALL.matcher(line);
            boolean read = call.matches();
            Check.holds("the form of '" + line + "'", read == line.startsWith("index."));
            if (read) {
                Check.same(line, FaceCall.make(index, call.group(1), numbers(call.group(2))),
                        Long.parseLong(call.group(3)));
                calls++;
            }
        }
        Check.holds("the example has calls", calls > 20);
    }

    private static long[] numbers(String given) {
        if (given.isEmpty()) {
            return new long[0];
        }
        String[] parts = given.split(", ");
        long[] numbers = new long[parts.length];
        for (int i = 0; i < parts.length; i++) {
            numbers[i] = Long.decode(parts[i]);
        }
        return numbers;
    }

    private static void namesEveryCall(String text) {
        for (Method method : SuffixIndex.class.getDeclaredMethods()) {
            if (Modifier.isPublic(method.getModifiers())) {
                Check.holds("README.md names " + method, text.contains("`" + method.getName() + "`"));
                Check.holds("the example has " + method, text.contains("index." + method.getName() + "("));
            }
        }
    }

    private static void namesEveryTest(String text) throws IOException {
        try (DirectoryStream<Path> tests = Files.newDirectoryStream(Path.of("src/test/java"), "*Test.java")) {
            for (Path test : tests) {
                String name = test.getFileName().toString().replace(".java", "");
                Check.holds("README.md names " + name, text.contains(name));
            }
        }
    }
}
