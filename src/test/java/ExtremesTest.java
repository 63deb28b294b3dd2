import java.lang.reflect.Method;
import java.lang.reflect.Modifier;
import java.util.ArrayList;
import java.util.Arrays;
import java.util.Comparator;
import java.util.List;

/**
 * Each call with arguments at its bounds, beside them and far beyond, in several states: it never throws, and the
 * Oracle answers the same.
 */
public final class ExtremesTest {
    private static final int LOW = Integer.MIN_VALUE;
    private static final int BIG = Integer.MAX_VALUE;

    private static final int[] MANY = {LOW, LOW + 1, -33, -32, -31, -3, -2, -1, 0, 1, 2, 3, 4, 5, 8, 9, 10, 11, 15, 16, 27,
        29, 30, 31, 32, 33, 64, 98, 99, 100, 101, 199, 200, 228, 255, 256, 399, 400, 401, 998, 999, 1000, 1022, 1023, 1024,
        99998, 99999, 100000, BIG - 1, BIG};
    private static final int[] SOME = {LOW, -2, -1, 0, 1, 9, 10, 11, 99, 100, 101, 999, 1000, 1023, 1024, BIG};

    /** All that a tape holds: two of them leave something in each place of an object. */
    private static final String STUFFED = "fund 99999;fee 50;least 999;till 5;period 3 9;" + "channel 9 2;".repeat(4)
            + "member 0 99 99 by 3;".repeat(10) + "conflict 8 9;conflict 0 9;conflict 7 9;conflict 6 9;conflict 5 9;"
            + "conflict 4 9;conflict 3 9;conflict 2 9;";

    /** The TEXT, then acts: calls with their arguments; text: and another TEXT. */
    private static final String[][] STATES = {
        {""},
        {STUFFED, "order 228", "send", "days 2", "file 9", "out 8", "lazy 9 1", "rule 1", "text:" + STUFFED, "send",
            "days 30", "file 0", "file 1", "text:fund 9;channel 0 1;member 0 0 1 by 0;member 1 2 3;"},
        {STUFFED, "text:" + STUFFED, "text:"},
        {"member 0 0 1;"},
        {Run.FOUR},
        {Run.FOUR, "order 4", "send", "days 4", "file 0", "file 1", "file 3", "fund 100", "lazy 1 1"},
        {Run.FOUR, "send", "days 5", "file 0", "out 3", "rule 2", "quarrel 0 3", "period 0 99"},
        {"fund 999;least 9;channel 0 30;channel 99 1;channel 7 7;channel 1 2;member 0 99 99 by 3;member 99 99 1 by 0 1 2;"
            + "conflict 1 0;", "order 228", "send", "days 30", "file 0", "days 30", "file 1"},
    };
    private static final String[] FULL = {Run.members(10), "send", "days 1", "file 0", "file 9", "quarrel 0 9",
        "quarrel 0 8", "quarrel 8 9", "fund 2"};

    private final String[] state;
    private ClassOfMany many;
    private Oracle oracle;
    private int calls;

    private ExtremesTest(String[] state) {
        this.state = state;
    }

    private static List<Method> face() {
        List<Method> face = new ArrayList<>();
        for (Method m : ClassOfMany.class.getDeclaredMethods()) {
            if (Modifier.isPublic(m.getModifiers())) {
                face.add(m);
            }
        }
        face.sort(Comparator.comparing(Method::getName));
        return face;
    }

    private void begin() throws Exception {
        many = new ClassOfMany();
        oracle = new Oracle();
        calls = 0;
        tell(state[0]);
        for (int k = 1; k < state.length; k++) {
            if (state[k].startsWith("text:")) {
                tell(state[k].substring("text:".length()));
            } else {
                act(state[k].split(" "));
            }
        }
    }

    private void tell(String told) throws Exception {
        StringBuilder text = new StringBuilder(told);
        while (text.length() % 20 != 0) {
            text.append(' ');
        }
        Method feed = named("feed");
        for (int at = 0; at < text.length(); at += 20) {
            Object[] words = {0, 0, 0, 0, 0};
            for (int k = 0; k < 20; k++) {
                words[k / 4] = (Integer) words[k / 4] << 8 | text.charAt(at + k);
            }
            both(feed, words);
        }
        both(named("text"));
    }

    private void act(String[] act) throws Exception {
        Method method = named(act[0]);
        Object[] args = new Object[act.length - 1];
        for (int p = 0; p < args.length; p++) {
            int value = Integer.parseInt(act[p + 1]);
            args[p] = method.getParameterTypes()[p] == boolean.class ? (Object) (value == 1) : (Object) value;
        }
        both(method, args);
    }

    private static Method named(String name) {
        return face().stream().filter(m -> m.getName().equals(name)).findFirst().orElseThrow();
    }

    private void both(Method method, Object... args) throws Exception {
        calls++;
        Object got = method.invoke(many, args);
        Object due = Oracle.class.getDeclaredMethod(method.getName(), method.getParameterTypes()).invoke(oracle, args);
        if (!got.equals(due)) {
            throw new IllegalStateException(method.getName() + Arrays.toString(args) + " answered " + got + ", due is " + due
                    + " in " + Arrays.toString(state));
        }
    }

    /** All arguments of these values; where there are five of them, one value for all. */
    private void tryAll(Method method, int[] values) throws Exception {
        int size = method.getParameterCount();
        int free = size == 5 ? 1 : size;
        int runs = 1;
        for (int p = 0; p < free; p++) {
            runs *= values.length;
        }
        for (int run = 0; run < runs; run++) {
            if (many == null || calls > 480) {
                begin();
            }
            Object[] args = new Object[size];
            int rest = run;
            for (int p = 0; p < size; p++) {
                int value = values[rest % values.length];
                args[p] = method.getParameterTypes()[p] == boolean.class ? (Object) (value % 2 == 0) : (Object) value;
                rest = free == size ? rest / values.length : rest;
            }
            both(method, args);
        }
    }

    private void tryFace(int[] values) throws Exception {
        for (Method method : face()) {
            many = null;
            tryAll(method, method.getParameterCount() == 3 ? SOME : values);
        }
    }

    public static void main(String[] args) throws Exception {
        try {
            for (String[] state : STATES) {
                new ExtremesTest(state).tryFace(MANY);
            }
            // The Oracle is too slow here for all sets that rest.
            ExtremesTest full = new ExtremesTest(FULL);
            for (Method method : face()) {
                full.many = null;
                if (!method.getName().equals("rests")) {
                    full.tryAll(method, SOME);
                }
            }
        } catch (Exception e) {
            System.out.println(e + (e.getCause() == null ? "" : " " + e.getCause()));
            System.exit(1);
        }
        System.out.println("arguments at all bounds and beyond are answered as due");
    }
}
