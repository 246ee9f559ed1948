import java.io.IOException;
import java.lang.reflect.Method;
import java.lang.reflect.Modifier;
import java.nio.file.DirectoryStream;
import java.nio.file.Files;
import java.nio.file.Path;
import java.util.Set;
import java.util.TreeSet;
import java.util.regex.Matcher;
import java.util.regex.Pattern;

/** Makes the calls of README.md's example, and looks whether README.md tells of every call and test. */
public final class TheReadme extends Checks {
    private static final Pattern EXAMPLE = Pattern.compile("(?s)```java\n(.*?)```");
    private static final Pattern CALL = Pattern.compile("flows\\.(\\w+)\\(([^)]*)\\);\\s*// ([^:\\s]+):.*");

    private static Method called(String name) {
        for (Method method : LabelledFlows.class.getDeclaredMethods()) {
            if (Modifier.isPublic(method.getModifiers()) && method.getName().equals(name)) {
                return method;
            }
        }
        throw new IllegalArgumentException("README.md calls " + name);
    }

    private static Object[] arguments(String list) {
        if (list.isEmpty()) {
            return new Object[0];
        }
        String[] texts = list.split(", ");
        Object[] numbers = new Object[texts.length];
        for (int i = 0; i < texts.length; i++) {
            numbers[i] = Integer.valueOf(texts[i]);
        }
        return numbers;
    }

    private static Set<String> makeCalls(String example) throws ReflectiveOperationException {
        LabelledFlows flows = new LabelledFlows();
        Set<String> names = new TreeSet<>();
        for (String line : example.split("\n")) {
            if (!line.isEmpty() && !line.equals("LabelledFlows flows = new LabelledFlows();")) {
                Matcher call = CALL.matcher(line);
                due("README.md's line is a call with its answer: " + line, call.matches(), true);
                if (call.matches()) {
                    Object got = called(call.group(1)).invoke(flows, arguments(call.group(2)));
                    dueSame("README.md's " + line, String.valueOf(got), call.group(3));
                    names.add(call.group(1));
                }
            }
        }
        return names;
    }

    private static void tellsOfEveryCall(String readme) {
        for (Method method : LabelledFlows.class.getDeclaredMethods()) {
            if (Modifier.isPublic(method.getModifiers())) {
                due("README.md tells of " + method, readme.contains("| `" + method.getName() + "("), true);
            }
        }
    }

    private static void tellsOfEveryTest(String readme) throws IOException {
        try (DirectoryStream<Path> tests = Files.newDirectoryStream(Path.of("src/test/java"), "*.java")) {
            for (Path test : tests) {
                String name = test.getFileName().toString().replace(".java", "");
                due("README.md tells of " + name, readme.contains("`" + name + "`"), true);
            }
        }
        due("README.md says how the tests are run", readme.contains("```sh\n.ci/run\n```"), true);
    }

    public static void main(String[] args) throws IOException, ReflectiveOperationException {
        String readme = Files.readString(Path.of("README.md"));
        Matcher example = EXAMPLE.matcher(readme);
        due("README.md has an example", example.find(), true);
        Set<String> names = makeCalls(example.group(1));
        due("the example uses most calls", names.size() >= 12, true);
        tellsOfEveryCall(readme);
        tellsOfEveryTest(readme);
        finish();
    }
}
