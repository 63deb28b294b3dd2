import java.lang.reflect.Method;
import java.nio.file.Files;
import java.nio.file.Path;
import java.util.Arrays;
import java.util.Comparator;
import java.util.regex.Matcher;
import java.util.regex.Pattern;

/**
 * Runs each test that bears the document's words, looks whether these words stand there, and whether each place of
 * the document that names a boundary case is within such words. Argument: the document's path.
 */
public final class EdgesTest {
    private static final int PROMISES = 53;
    private static final Class<?>[] TESTS = {TermsEdges.class, ActsEdges.class, AskedEdges.class, PaidEdges.class,
        SamplesEdges.class};

    /** Words by which the document names a boundary case. */
    private static final Pattern NAMED = Pattern.compile("NONE|-[24]\\b|\\bfalse\\b|out of bounds|\\bno\\b|\\bnot\\b"
            + "|\\bnone\\b|\\bnever\\b|nothing|\\bnobody\\b|at most|at least|\\bleast\\b|\\bfewest\\b|below|above"
            + "|more than|of several|of like ones|\\bcut\\b|\\d \\.\\. \\d|empty|latest|\\bonce\\b|too early|both"
            + "|\\bjust\\b|others|\\bfirst\\b|\\bif\\b|\\bwithout\\b|\\bor\\b");

    private static String[] sections;
    private static boolean[][] covered;

    public static void main(String[] args) throws Exception {
        readSections(Files.readString(Path.of(args[0])));
        for (Class<?> type : TESTS) {
            Method[] methods = type.getDeclaredMethods();
            Arrays.sort(methods, Comparator.comparing(Method::getName));
            for (Method test : methods) {
                Says says = test.getAnnotation(Says.class);
                if (says != null) {
                    Run.isAbout("promise " + says.promise() + ", " + test.getName());
                    cover(says);
                    test.setAccessible(true);
                    test.invoke(null);
                    if (Run.askedSince() == 0) {
                        Run.tellWrong("nothing was asked");
                    }
                }
            }
        }
        lookForWhatIsLeft();
        Run.end("all boundary cases are as the document says");
    }

    /** Section 0 is all ahead of the promises but the face and the first sentence; white space is single blanks. */
    private static void readSections(String document) {
        String told = document.replaceAll("(?s)^.*?==== I\\.", " ").replaceAll("(?s)## Not promised.*", "")
                .replaceAll("(?s)```java.*?```", " ").replace("```text", " ").replace("```", " ");
        String[] parts = told.split("\n## Promise \\d+: [^\n]*\n");
        Run.isAbout("the document");
        if (parts.length != PROMISES + 1) {
            Run.tellWrong("it has " + (parts.length - 1) + " promises");
        }
        sections = new String[parts.length];
        covered = new boolean[parts.length][];
        for (int k = 0; k < parts.length; k++) {
            sections[k] = parts[k].replaceAll("\\s+", " ");
            covered[k] = new boolean[sections[k].length()];
        }
    }

    private static void cover(Says says) {
        String section = sections[says.promise()];
        for (String words : says.value()) {
            int at = section.indexOf(words);
            if (at < 0) {
                Run.tellWrong("the document does not say: " + words);
            }
            while (at >= 0) {
                Arrays.fill(covered[says.promise()], at, at + words.length(), true);
                at = section.indexOf(words, at + 1);
            }
        }
    }

    private static void lookForWhatIsLeft() {
        for (int k = 0; k < sections.length; k++) {
            Run.isAbout("promise " + k);
            Matcher m = NAMED.matcher(sections[k]);
            while (m.find()) {
                if (!covered[k][m.start()]) {
                    int from = Math.max(0, m.start() - 40);
                    int to = Math.min(sections[k].length(), m.end() + 40);
                    Run.tellWrong("no test is about: .. " + sections[k].substring(from, to) + " ..");
                }
            }
        }
    }
}
