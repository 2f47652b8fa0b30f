import java.io.IOException;
import java.lang.reflect.Method;
import java.lang.reflect.Modifier;
import java.nio.file.DirectoryStream;
import java.nio.file.Files;
import java.nio.file.Path;
import java.util.regex.Matcher;
import java.util.regex.Pattern;

/** README.md: its example answers what it says there, and every call and every test is named. */
public final class ReadmeTest {
    private static final Due due = new Due();
    /** A call of the example, and behind it the answer: // .. -> 2 .. */
    private static final Pattern STEP = Pattern.compile("(?m)^strait\\.(.*); *//.*-> (-?\\w+)");

    private ReadmeTest() {
    }

    public static void main(String[] args) throws IOException {
        String page = Files.readString(Path.of("README.md"));
        example(page.substring(page.indexOf("```java"), page.indexOf("```\n", page.indexOf("```java") + 3)));
        allCallsAreNamed(page);
        allTestsAreNamed(page);
        due.end();
    }

    private static void example(String code) {
        SealStrait strait = new SealStrait();
        Matcher step = STEP.matcher(code);
        int steps = 0;
        while (step.find()) {
            steps++;
            String call = withoutLetters(step.group(1));
            Calls.Call told = Calls.of(call + " = " + step.group(2)).get(0);
            due.is("README.md, strait." + step.group(1), told.on(strait), told.due());
        }
        // The fence's line and the one that makes the object are no calls.
        due.is("calls of the example that tell an answer", steps, code.lines().count() - 2);
    }

    /** A letter is told as 'a' there, and as its number to Calls. */
    private static String withoutLetters(String call) {
        Matcher letter = Pattern.compile("'(.)'").matcher(call);
        return letter.replaceAll(found -> String.valueOf((int) found.group(1).charAt(0)));
    }

    private static void allCallsAreNamed(String page) {
        for (Method method : SealStrait.class.getDeclaredMethods()) {
            if (Modifier.isPublic(method.getModifiers())) {
                Matcher row = Pattern.compile("(?m)^\\| `" + method.getName() + "\\((.*?)\\)` \\|").matcher(page);
                boolean isNamed = row.find();
                due.isTrue("README.md names " + method.getName(), isNamed);
                if (isNamed) {
                    int told = row.group(1).isEmpty() ? 0 : row.group(1).split(", ").length;
                    due.is("parameters of " + method.getName() + " in README.md", told, method.getParameterCount());
                }
            }
        }
    }

    private static void allTestsAreNamed(String page) throws IOException {
        try (DirectoryStream<Path> tests = Files.newDirectoryStream(Path.of("src/test/java"), "*Test.java")) {
            for (Path test : tests) {
                String name = test.getFileName().toString().replace(".java", "");
                due.isTrue("README.md names " + name, page.contains("| `" + name + "` |"));
            }
        }
    }
}
