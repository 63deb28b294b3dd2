import java.lang.reflect.Constructor;
import java.lang.reflect.Field;
import java.lang.reflect.Member;
import java.lang.reflect.Method;
import java.lang.reflect.Modifier;
import java.nio.file.Files;
import java.nio.file.Path;
import java.util.ArrayList;
import java.util.List;
import java.util.Map;
import java.util.Set;
import java.util.TreeMap;
import java.util.TreeSet;
import java.util.regex.Matcher;
import java.util.regex.Pattern;

/** Rules of LANGUAGE.md that can be seen from outside. Arguments: the source's path, the document's path. */
public final class LanguageTest {
    private static int wrong = 0;

    private static void must(boolean holds, String what) {
        if (!holds) {
            wrong++;
            System.out.println("broken: " + what);
        }
    }

    public static void main(String[] args) throws Exception {
        List<String> lines = Files.readAllLines(Path.of(args[0]));
        String document = Files.readString(Path.of(args[1]));
        faceIsTheDocuments(document);
        classesInside();
        wordsLeftOut(withoutCommentsAndTexts(lines));
        methodsAreShort(lines);
        callsStayShallow(withoutCommentsAndTexts(lines));
        System.out.println(wrong == 0 ? "the language is kept to" : wrong + " rules are broken");
        if (wrong != 0) {
            System.exit(1);
        }
    }

    private static String shapeOf(Method m) {
        StringBuilder b = new StringBuilder(m.getReturnType().getSimpleName() + " " + m.getName());
        for (Class<?> type : m.getParameterTypes()) {
            b.append(' ').append(type.getSimpleName());
        }
        return b.toString();
    }

    private static void faceIsTheDocuments(String document) {
        Set<String> due = new TreeSet<>();
        Matcher m = Pattern.compile("public (int|boolean) (\\w+)\\(([^)]*)\\);").matcher(document);
        while (m.find()) {
            String types = m.group(3).replaceAll("(int|boolean) \\w+,? ?", " $1");
            due.add(m.group(1) + " " + m.group(2) + types);
        }
        Set<String> got = new TreeSet<>();
        Set<String> hidden = new TreeSet<>();
        Set<String> names = new TreeSet<>();
        for (Method method : ClassOfMany.class.getDeclaredMethods()) {
            if (Modifier.isPublic(method.getModifiers())) {
                got.add(shapeOf(method));
                names.add(method.getName());
            } else {
                mustBePrivate(method);
                hidden.add(method.getName());
            }
        }
        hidden.retainAll(names);
        must(due.size() == 52 && due.equals(got), "1: the face is " + got + ", due is " + due);
        must(hidden.isEmpty(), "1: private methods with a public one's name: " + hidden);
        Constructor<?>[] constructors = ClassOfMany.class.getDeclaredConstructors();
        must(constructors.length == 1 && Modifier.isPublic(constructors[0].getModifiers())
                && constructors[0].getParameterCount() == 0, "1: the constructor");
        for (Field field : ClassOfMany.class.getDeclaredFields()) {
            if (!field.getName().equals("NONE")) {
                mustBePrivate(field);
            }
        }
        must(Modifier.isFinal(ClassOfMany.class.getModifiers()), "1: the class is final");
    }

    private static void mustBePrivate(Member member) {
        must(Modifier.isPrivate(member.getModifiers()), "1: " + member.getName() + " is private");
    }

    private static void classesInside() {
        Class<?>[] inside = ClassOfMany.class.getDeclaredClasses();
        must(inside.length < 12, "11: at most some twelve classes");
        mustBeSmall(ClassOfMany.class);
        for (Class<?> type : inside) {
            must(Modifier.isStatic(type.getModifiers()), "2: " + type.getName() + " is static");
            mustBeSmall(type);
        }
    }

    private static void mustBeSmall(Class<?> type) {
        int fields = 0;
        for (Field field : type.getDeclaredFields()) {
            boolean isStatic = Modifier.isStatic(field.getModifiers());
            fields += isStatic ? 0 : 1;
            must(!isStatic || Modifier.isFinal(field.getModifiers()), "5: " + field.getName() + " is final");
        }
        must(fields <= 20, "11: " + type.getName() + " has " + fields + " fields");
        for (Method method : type.getDeclaredMethods()) {
            must(method.getParameterCount() <= 7, "11: " + method.getName() + " has too many parameters");
        }
    }

    private static String withoutCommentsAndTexts(List<String> lines) {
        return String.join("\n", lines).replaceAll("(?s)/\\*.*?\\*/", "").replaceAll("//[^\n]*", "")
                .replaceAll("\"[^\"]*\"", "TEXT");
    }

    private static void wordsLeftOut(String source) {
        String[] patterns = {"\\b(throw|throws|try|catch|synchronized|assert)\\b", "\\b(package|yield|var|protected)\\b",
            "\\bimport (?!java\\.util\\.Arrays;)", "\\bSystem\\.(?!arraycopy\\()", "\\w+Exact\\b",
            "\\b(Object|hashCode|Thread|Random)\\b", "while \\(true\\)", "for \\(;;\\)", "static \\{",
            "Math\\.(?!(min|max|abs)\\()", "Integer\\.(?!bitCount\\()", "Long\\.", "Arrays\\.(?!fill\\()"};
        for (String pattern : patterns) {
            must(!Pattern.compile(pattern).matcher(source).find(), "4, 5, 6, 9: " + pattern);
        }
        must(!source.contains("->") && !source.contains("::") && !source.contains("@"), "2: lambdas, references");
        must(!Pattern.compile("TEXT \\+|\\+ TEXT").matcher(source).find(), "10: texts joined by +");
        must(source.chars().allMatch(c -> c < 128), "4: signs of 1 to 127 alone");
    }

    private static void methodsAreShort(List<String> lines) {
        int start = -1;
        for (int k = 0; k < lines.size(); k++) {
            String line = lines.get(k);
            boolean opens = line.matches("( {4}| {8})[\\w\\[\\] ]+\\([^;]*\\) \\{") && !line.contains(" for (");
            if (opens && !line.trim().matches("(if|for|while|switch|else).*")) {
                start = k;
            } else if (start >= 0 && line.matches(" {4}\\}| {8}\\}")) {
                must(k - start <= 60, "11: the method at line " + (start + 1) + " is long");
                start = -1;
            }
        }
    }

    /** Methods of one name in several classes are taken for one, so no chain of calls is missed. */
    private static void callsStayShallow(String source) {
        Map<String, Set<String>> called = new TreeMap<>();
        Matcher m = Pattern.compile("(?ms)^( {4}| {8})(?! )[\\w\\[\\] ]*\\b(\\w+)\\([^;{}]*\\) \\{\\n(.*?)^\\1\\}").matcher(source);
        while (m.find()) {
            if (!m.group(2).matches("if|for|while|switch|[A-Z]\\w*")) {
                called.computeIfAbsent(m.group(2), name -> new TreeSet<>()).addAll(callsIn(m.group(3)));
            }
        }
        called.values().forEach(names -> names.retainAll(called.keySet()));
        must(called.size() > 100, "11: only " + called.size() + " methods were found");
        for (String name : called.keySet()) {
            List<String> chain = longestChain(name, called, List.of());
            must(chain.size() <= 8, "11: calls go deeper than eight: " + chain);
        }
    }

    private static Set<String> callsIn(String body) {
        Set<String> names = new TreeSet<>();
        Matcher m = Pattern.compile("\\b(\\w+)\\(").matcher(body);
        while (m.find()) {
            names.add(m.group(1));
        }
        return names;
    }

    private static List<String> longestChain(String name, Map<String, Set<String>> called, List<String> open) {
        List<String> chain = new ArrayList<>(open);
        chain.add(name);
        List<String> longest = chain;
        for (String next : called.get(name)) {
            if (!chain.contains(next)) {
                List<String> longer = longestChain(next, called, chain);
                longest = longer.size() > longest.size() ? longer : longest;
            } else {
                must(next.equals(name), "8: " + name + " calls " + next + ", which stands open");
            }
        }
        return longest;
    }
}
