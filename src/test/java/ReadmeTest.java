import java.io.IOException;
import java.lang.reflect.Method;
import java.nio.file.DirectoryStream;
import java.nio.file.Files;
import java.nio.file.Path;
import java.util.regex.Matcher;
import java.util.regex.Pattern;

/** README.md is right: its example answers as it says, and every call and every test stands in it. */
public final class ReadmeTest {
    private static final Pattern CALL = Pattern.compile("x\\.(\\w+)\\((.*)\\);\\s*// (-?\\w+)\\b.*");
    private static int wrong = 0;
    private static int made = 0;

    private static void complain(String what) {
        wrong++;
        System.out.println(what);
    }

    /** A number, or numbers shifted and joined by | as a partial row is written. */
    private static int valueOf(String text) {
        int value = 0;
        for (String part : text.split("\\|")) {
            String[] shifted = part.trim().split(" << ");
            int number = Integer.parseInt(shifted[0]);
            value |= shifted.length > 1 ? number << Integer.parseInt(shifted[1]) : number;
        }
        return value;
    }

    private static Object[] argumentsOf(String text) {
        String[] parts = text.isEmpty() ? new String[0] : text.split(",");
        Object[] arguments = new Object[parts.length];
        for (int i = 0; i < parts.length; i++) {
            arguments[i] = valueOf(parts[i].trim());
        }
        return arguments;
    }

    private static Method methodOf(String name) throws NoSuchMethodException {
        for (Method method : CombinationRows.class.getMethods()) {
            if (method.getName().equals(name)) {
                return method;
            }
        }
        throw new NoSuchMethodException(name);
    }

    private static void makeCall(CombinationRows x, String line) throws ReflectiveOperationException {
        Matcher call = CALL.matcher(line.trim());
        if (!call.matches()) {
            complain("README.md: not a call with its answer: " + line);
            return;
        }
        Object answer = methodOf(call.group(1)).invoke(x, argumentsOf(call.group(2)));
        made++;
        if (!answer.toString().equals(call.group(3))) {
            complain("README.md: " + line + " -- it answers " + answer);
        }
    }

    private static void runExample(String readme) throws ReflectiveOperationException {
        int start = readme.indexOf("```java\n") + "```java\n".length();
        String example = readme.substring(start, readme.indexOf("```", start));
        CombinationRows x = new CombinationRows();
        for (String line : example.split("\n")) {
            if (!line.equals("CombinationRows x = new CombinationRows();")) {
                makeCall(x, line);
            }
        }
        for (Method method : CombinationRows.class.getDeclaredMethods()) {
            if (method.toString().startsWith("public") && !example.contains("x." + method.getName() + "(")) {
                complain("README.md: the example does not show " + method.getName());
            }
        }
    }

    private static void findTests(String readme) throws IOException {
        try (DirectoryStream<Path> tests = Files.newDirectoryStream(Path.of("src/test/java"), "*.java")) {
            for (Path test : tests) {
                String name = test.getFileName().toString().replace(".java", "");
                if (!readme.contains("- `" + name + "`")) {
                    complain("README.md does not tell of " + name);
                }
            }
        }
        if (!readme.contains("\n.ci/run\n")) {
            complain("README.md does not say how to run the tests");
        }
    }

    public static void main(String[] args) throws IOException, ReflectiveOperationException {
        String readme = Files.readString(Path.of("README.md"));
        runExample(readme);
        findTests(readme);
        System.out.println(wrong == 0 ? made + " calls of README.md answer as it says"
                : wrong + " faults in README.md");
        System.exit(wrong == 0 ? 0 : 1);
    }
}
