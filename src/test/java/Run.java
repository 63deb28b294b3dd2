import java.lang.reflect.Method;
import java.lang.reflect.Modifier;
import java.util.Arrays;
import java.util.HashMap;
import java.util.Map;
import java.util.function.Supplier;

/** A run of calls on one object of ClassOfMany, each with the answer that is due; wrong ones are printed, counted. */
final class Run {
    static final int NONE = -1;
    static final int BIG = Integer.MAX_VALUE;
    static final int LOW = Integer.MIN_VALUE;

    /** The document promises nothing about an object behind so many calls. */
    static final int MOST_CALLS = 512;

    /** CLAIMS 50, 40, 100, 20; MEMBER 2 is never REACHED; SUB-CLASSES {0, 2, 3} and {1}. */
    static final String FOUR = "fund 1000;fee 10;least 5;till 9;period 10 19;channel 2 3;channel 1 1;"
            + "member 10 14 10 by 0;member 12 21 5 by 1;member 0 99 10;member 19 30 20 by 1 0;"
            + "conflict 0 1;conflict 3 1;";

    /** A path 0 - 2 - 3 - 1: taking the least class each time would make three classes. */
    static final String PATH = "member 0 0 4;member 0 0 9;member 0 0 9;member 0 0 4;"
            + "conflict 0 2;conflict 2 3;conflict 3 1;";

    /** Three in a feud, 1, 2 and 3, and 0 against 1. */
    static final String KITE = "member 0 0 1;member 0 0 1;member 0 0 1;member 0 0 1;"
            + "conflict 0 1;conflict 1 2;conflict 2 3;conflict 1 3;";

    private static final Map<String, Method> FACE = faceOf();

    private static int wrong = 0;
    private static int asked = 0;
    private static String about = "";

    private final ClassOfMany many = new ClassOfMany();
    private int calls = 0;

    private static Map<String, Method> faceOf() {
        Map<String, Method> face = new HashMap<>();
        for (Method m : ClassOfMany.class.getDeclaredMethods()) {
            if (Modifier.isPublic(m.getModifiers())) {
                face.put(m.getName(), m);
            }
        }
        return face;
    }

    /** What is asked from now on is about this; it is told with each wrong answer. */
    static void isAbout(String what) {
        about = what;
        asked = 0;
    }

    /** How many answers were looked at since isAbout. */
    static int askedSince() {
        return asked;
    }

    static void tellWrong(String what) {
        wrong++;
        System.out.println(about + ": " + what);
    }

    /** The last line of a test, and its exit code. */
    static void end(String allIsWell) {
        System.out.println(wrong == 0 ? allIsWell : wrong + " answers are not as due");
        if (wrong != 0) {
            System.exit(1);
        }
    }

    // ---- how runs begin

    static Run fresh() {
        return new Run();
    }

    /** An object to which a right TEXT was told. */
    static Run of(String text) {
        Run t = new Run();
        t.put(text);
        int members = t.ask("text");
        if (members < 0) {
            tellWrong(text + " answered " + members);
        }
        return t;
    }

    /** FOUR with NOTICES SENT by ORDER 4, all that can be FILED, on day 4; NET is 892. */
    static Run going() {
        return of(FOUR).due(1, "order", 4).due(8, "send").due(4, "days", 4)
                .due(1, "file", 0).due(2, "file", 1).due(3, "file", 3);
    }

    /** As going, with a FUND of 100: NET is 82, POTS 52 and 29, PAID 37, 29, 0, 14, 2 are LEFT. */
    static Run scarce() {
        return going().due(1000, "fund", 100);
    }

    /** So many MEMBERS with a CLAIM of 1, all reached by the one CHANNEL, that costs nothing. */
    static String members(int n) {
        return "channel 0 1;" + "member 0 0 1 by 0;".repeat(n);
    }

    /** MEMBERS with such CLAIMS (1 .. 99), all REACHED and FILED on day 1; NET is FUND, if text tells no fee. */
    static Run filed(String text, int... claims) {
        StringBuilder b = new StringBuilder(text).append("channel 0 1;");
        for (int claim : claims) {
            b.append("member 0 0 ").append(claim).append(" by 0;");
        }
        Run t = of(b.toString()).due(0, "send").due(1, "days", 1);
        for (int i = 0; i < claims.length; i++) {
            t.due(i + 1, "file", i);
        }
        return t;
    }

    /** LEFT goes 12, 9, 7, 6, 5, 4, 3, all to MEMBER 0; then even it would be sent 0. */
    static Run manyRounds() {
        return filed("fund 12;", 26, 6, 6, 6, 6, 6, 6, 6, 6, 6);
    }

    // ---- calls

    int calls() {
        return calls;
    }

    /** The answer, true as 1 and false as 0; what is thrown is wrong. */
    private int ask(String call, Object... args) {
        calls++;
        if (calls == MOST_CALLS + 1) {
            tellWrong("the test itself asks too much of one object");
        }
        try {
            Object got = FACE.get(call).invoke(many, args);
            return got instanceof Boolean is ? (is ? 1 : 0) : (Integer) got;
        } catch (ReflectiveOperationException | RuntimeException e) {
            tellWrong(call + Arrays.toString(args) + " threw " + (e.getCause() == null ? e : e.getCause()));
            return LOW + 7;
        }
    }

    Run put(String text) {
        StringBuilder b = new StringBuilder(text);
        while (b.length() % 20 != 0) {
            b.append('#');
        }
        for (int at = 0; at < b.length(); at += 20) {
            Object[] words = {0, 0, 0, 0, 0};
            for (int k = 0; k < 20; k++) {
                words[k / 4] = (Integer) words[k / 4] << 8 | b.charAt(at + k);
            }
            ask("feed", words);
        }
        ask("back", b.length() - text.length());
        return this;
    }

    Run due(int want, String call, Object... args) {
        asked++;
        int got = ask(call, args);
        if (got != want) {
            tellWrong(call + Arrays.toString(args) + " answered " + got + ", due is " + want);
        }
        return this;
    }

    /** Each byte of spell or report, how many there are, and what comes behind them. */
    Run dueText(String want, String call) {
        due(want.length(), call, NONE);
        for (int i = 0; i < want.length(); i++) {
            due(want.charAt(i), call, i);
        }
        return due(-2, call, want.length()).due(-2, call, BIG);
    }

    Run dueTold(int want, String text) {
        return put(text).due(want, "text");
    }

    static void dueFault(int at, String text) {
        fresh().dueTold(-4 - at, text).due(0, "count", 14).due(0, "count", 15);
    }

    /** A TEXT with ^ ahead of the byte that is its FAULT. */
    static void fault(String marked) {
        dueFault(marked.indexOf('^'), marked.replace("^", ""));
    }

    /** A right TEXT: its MEMBERS are told. */
    static Run right(String text) {
        return fresh().dueTold(text.split("member", -1).length - 1, text);
    }

    /** An N of low to high may stand between; one below or above is a FAULT at its first byte. */
    static void bounds(String ahead, int low, int high, String behind) {
        right(ahead + low + behind);
        right(ahead + high + behind);
        fault(ahead + "^" + (low - 1) + behind);
        fault(ahead + "^" + (high + 1) + behind);
    }

    // ---- calls by which nothing happens

    /** What can be asked of an object, as far as the calls last; it takes all ACTS back at its end. */
    private String looks() {
        StringBuilder b = new StringBuilder();
        for (int what = 0; what < 16; what++) {
            b.append(ask("count", what)).append(' ');
        }
        int members = ask("count", 0);
        for (int i = 0; i < members && i < 4; i++) {
            for (int what = 5; what < 10; what++) {
                b.append(ask("member", i, what)).append(' ');
            }
            b.append(ask("paid", i)).append(' ').append(ask("classOf", i)).append(' ');
        }
        for (int i = 0; i < 200; i++) {
            int sign = ask("spell", i);
            b.append((char) Math.max(0, sign));
            if (sign < 0) {
                break;
            }
        }
        for (int k = 0; k < 13; k++) {
            b.append(' ').append(ask("undo"));
            for (int what = 2; what < 13; what++) {
                b.append(' ').append(ask("count", what));
            }
        }
        return b.append(' ').append(ask("text")).append(ask("count", 0)).toString();
    }

    /** All is as it is with another one, what undo() finds, too. */
    void looksAs(Run other) {
        String got = looks();
        String want = other.looks();
        if (!got.equals(want)) {
            tellWrong("it is\n" + got + "\nin place of\n" + want);
        }
    }

    /** A call answers so, and all is behind it as it would be without it. */
    static void nothingHappens(Supplier<Run> begin, int want, String call, Object... args) {
        begin.get().due(want, call, args).looksAs(begin.get());
    }
}
