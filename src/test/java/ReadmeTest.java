import java.io.ByteArrayOutputStream;
import java.io.PrintStream;
import java.lang.reflect.Method;
import java.lang.reflect.Modifier;
import java.nio.file.Files;
import java.nio.file.Path;
import java.util.List;
import java.util.regex.Matcher;
import java.util.regex.Pattern;

/** README.md says what holds. Arguments: the paths of README.md, Example.java and .ci/run. */
public final class ReadmeTest {
    private static int wrong = 0;

    private static void must(boolean holds, String what) {
        if (!holds) {
            wrong++;
            System.out.println("README.md: " + what);
        }
    }

    public static void main(String[] args) throws Exception {
        String readme = Files.readString(Path.of(args[0]));
        String example = Files.readString(Path.of(args[1]));
        must(readme.contains("```java\n" + example + "```"), "its example is not Example.java");
        exampleIsTrue(example);
        everyCallIsTold(readme);
        everyTestIsTold(readme, Files.readString(Path.of(args[2])));
        System.out.println(wrong == 0 ? "README.md is as the class is" : wrong + " things are not so");
        if (wrong != 0) {
            System.exit(1);
        }
    }

    /** Each line that prints says behind it what: the answer, and words about it behind a colon or a blank. */
    private static void exampleIsTrue(String example) throws Exception {
        List<String> printed = printedByExample();
        Matcher m = Pattern.compile("\\);\\s+// (.*)").matcher(example);
        int k = 0;
        while (m.find()) {
            String said = m.group(1);
            String answer = k < printed.size() ? printed.get(k) : "nothing";
            String rest = said.startsWith(answer) ? said.substring(answer.length()) : "?";
            must(rest.isEmpty() || rest.startsWith(":") || rest.startsWith(" "),
                    "its example prints " + answer + " where it says " + said);
            k++;
        }
        must(k == printed.size(), "its example prints " + printed.size() + " lines and says " + k);
    }

    private static List<String> printedByExample() throws Exception {
        PrintStream out = System.out;
        ByteArrayOutputStream bytes = new ByteArrayOutputStream();
        System.setOut(new PrintStream(bytes, true, "US-ASCII"));
        Example.main(new String[0]);
        System.setOut(out);
        return bytes.toString("US-ASCII").lines().toList();
    }

    private static void everyCallIsTold(String readme) {
        for (Method method : ClassOfMany.class.getDeclaredMethods()) {
            if (Modifier.isPublic(method.getModifiers())) {
                String row = "\\| `" + method.getName() + "\\((\\w+(, \\w+){" + Math.max(0, method.getParameterCount() - 1)
                        + "})" + (method.getParameterCount() == 0 ? "{0}" : "") + "\\)` \\| .+ \\|";
                must(Pattern.compile(row).matcher(readme).find(), "has no row for " + method.getName());
            }
        }
    }

    private static void everyTestIsTold(String readme, String script) {
        Matcher m = Pattern.compile("(?m)^own (\\w+)").matcher(script);
        int tests = 0;
        while (m.find()) {
            tests++;
            must(readme.contains("- `" + m.group(1)), "does not tell of " + m.group(1));
        }
        must(tests > 0, "no tests found in .ci/run");
    }
}
