import java.lang.reflect.Method;
import java.util.Arrays;
import java.util.HashMap;
import java.util.Map;
import java.util.Random;

/**
 * Runs of calls drawn by fixed seeds, asked of ClassOfMany and of the Oracle: each answer must be the same.
 * Arguments: how many runs, the first seed.
 */
public final class RandomRunsTest {
    private static final int CALLS = 512;

    private final Random random;
    private final ClassOfMany many = new ClassOfMany();
    private final Oracle oracle = new Oracle();
    private final Map<String, Method> methods;
    private final Map<String, Method> dueMethods;
    private final StringBuilder log = new StringBuilder();
    private int calls = 0;
    private int dear = 0;

    private RandomRunsTest(long seed, Map<String, Method> methods, Map<String, Method> dueMethods) {
        random = new Random(seed);
        this.methods = methods;
        this.dueMethods = dueMethods;
    }

    private static Map<String, Method> methodsOf(Class<?> type) {
        Map<String, Method> map = new HashMap<>();
        for (Method m : type.getDeclaredMethods()) {
            if (java.lang.reflect.Modifier.isPublic(m.getModifiers())) {
                map.put(m.getName(), m);
            }
        }
        return map;
    }

    private int below(int n) {
        return random.nextInt(n);
    }

    private boolean odds(int hundredths) {
        return below(100) < hundredths;
    }

    private int call(String name, Object... args) throws Exception {
        calls++;
        Object got = methods.get(name).invoke(many, args);
        Object due = dueMethods.get(name).invoke(oracle, args);
        log.append(name).append(Arrays.toString(args)).append(" = ").append(due).append('\n');
        if (!got.equals(due)) {
            throw new IllegalStateException(name + Arrays.toString(args) + " answered " + got + ", due is " + due);
        }
        return got instanceof Integer ? (Integer) got : 0;
    }

    // ---- texts

    private String gap(boolean needed) {
        StringBuilder b = new StringBuilder(needed ? " " : "");
        while (odds(8)) {
            b.append(odds(70) ? ' ' : '\n');
        }
        return b.toString();
    }

    private String number(int v) {
        String n = Integer.toString(v);
        return odds(4) && n.length() < 5 ? "0" + n : n;
    }

    private String line(String word, int... numbers) {
        StringBuilder b = new StringBuilder(gap(false) + word);
        for (int n : numbers) {
            b.append(gap(true)).append(number(n));
        }
        return b.append(gap(false)).append(';').toString();
    }

    private String memberLine(int channels) {
        int from = below(100);
        int span = odds(60) ? 12 : 100;
        int to = Math.min(99, from + below(span));
        int rate = 1 + below(odds(30) ? 99 : 12);
        String text = gap(false) + "member" + gap(true) + number(from) + gap(true) + number(to) + gap(true) + number(rate);
        int reach = odds(40) ? below(1 << channels) : (1 << channels) - 1;
        if (reach != 0) {
            text += gap(true) + "by";
            int first = below(4);
            for (int k = 0; k < 4; k++) {
                int c = (first + k) % 4;
                text += (reach >> c & 1) == 1 ? gap(true) + c : "";
            }
        }
        return text + gap(false) + ";";
    }

    private String rightText() {
        StringBuilder b = new StringBuilder();
        int members = odds(15) ? 10 : below(9);
        int channels = odds(8) ? 0 : 1 + below(4);
        b.append(odds(90) ? line("fund", odds(80) ? below(3000) : below(100000)) : "");
        b.append(odds(50) ? line("fee", below(51)) : "");
        b.append(odds(50) ? line("least", odds(85) ? below(60) : below(1000)) : "");
        for (int c = 0; c < channels; c++) {
            b.append(line("channel", below(odds(90) ? 12 : 100), 1 + below(odds(80) ? 5 : 30)));
        }
        b.append(odds(30) ? line("till", below(100)) : "");
        for (int i = 0; i < members && b.length() < 370; i++) {
            b.append(memberLine(channels));
        }
        if (odds(30)) {
            int from = below(60);
            b.append(line("period", from, from + below(100 - from)));
        }
        boolean[] told = new boolean[100];
        for (int k = 0; k < 12 && members > 1 && odds(90); k++) {
            int a = below(members);
            int c = below(members);
            if (a != c && !told[10 * a + c]) {
                told[10 * a + c] = true;
                told[10 * c + a] = true;
                b.append(line("conflict", a, c));
            }
        }
        b.append(gap(false));
        // What is too long is cut behind a LINE, to be a right TEXT still.
        while (b.length() > 400) {
            b.setLength(b.substring(0, b.length() - 1).lastIndexOf(";") + 1);
        }
        return b.toString();
    }

    private String wrongText() {
        StringBuilder b = new StringBuilder(rightText());
        String[] bits = {" ", "\n", ";", "by", "fund 3;", "fee 1;", "0", "9", "00000", "conflict 0 1;", "x", "member",
            "channel 1 1;", "member 1 2 3;", "\u00e9", "A", "till 100;", "period 4 3;", "conflict 1 0;", " 5", "\t"};
        int edits = 1 + below(2);
        for (int k = 0; k < edits && b.length() > 0; k++) {
            int at = below(b.length());
            switch (below(4)) {
                case 0 -> b.deleteCharAt(at);
                case 1 -> b.insert(at, bits[below(bits.length)]);
                case 2 -> b.setLength(at);
                default -> b.setCharAt(at, (char) below(odds(50) ? 256 : 64));
            }
        }
        b.setLength(Math.min(400, b.length()));
        return b.toString();
    }

    private void tell(String text) throws Exception {
        int length = text.length();
        int rest = (20 - length % 20) % 20;
        String padded = text + "                    ".substring(0, rest);
        for (int at = 0; at < padded.length(); at += 20) {
            int[] words = new int[5];
            for (int k = 0; k < 20; k++) {
                words[k / 4] = words[k / 4] << 8 | padded.charAt(at + k);
            }
            call("feed", words[0], words[1], words[2], words[3], words[4]);
        }
        if (odds(90)) {
            call("back", rest);
        }
        call("text");
    }

    // ---- arguments

    private int member() {
        return odds(94) ? below(Math.max(1, oracle.count(0))) : odds(50) ? below(14) - 2 : random.nextInt();
    }

    private int near(int low, int high) {
        int v = odds(94) ? low + below(high - low + 1) : odds(70) ? low - 1 + below(2) * (high - low + 2) : random.nextInt();
        return v;
    }

    /** Often a FUND that is scarce, so that ROUNDS, RULES and leavers make a difference. */
    private int aFund() {
        int claims = oracle.count(12);
        return odds(70) ? Math.min(99999, below(2 * claims + 2)) : near(0, 99999);
    }

    private int order() {
        return odds(70) ? anOrder() : near(0, 255);
    }

    private int anOrder() {
        int channels = oracle.count(1);
        for (int k = 0; k < 200; k++) {
            int order = below(1 << 2 * channels);
            if (oracle.costFor(order) != -1) {
                return order;
            }
        }
        return 0;
    }

    private int set() {
        return near(0, (1 << oracle.count(0)) - 1);
    }

    private void act() throws Exception {
        switch (below(24)) {
            case 0, 1 -> call("days", near(1, odds(50) ? 30 : 4));
            case 2, 3 -> call("order", order());
            case 4, 5 -> call("send");
            case 6 -> call("out", member());
            case 7, 8, 9, 10, 11, 12, 13 -> call("file", member());
            case 14 -> call("lazy", member(), odds(60));
            case 15, 16 -> call("fund", aFund());
            case 17 -> call("rule", near(0, 2));
            case 18 -> call("period", near(0, 60), near(40, 99));
            case 19, 20, 21 -> call("quarrel", member(), member());
            default -> call("undo");
        }
    }

    private void ask() throws Exception {
        switch (below(41)) {
            case 0, 1 -> call("member", member(), near(0, 9));
            case 2 -> call("channel", near(0, 3), near(0, 2));
            case 3 -> call("line", near(0, 25), near(0, 6));
            case 4 -> call("ranked", member());
            case 5 -> call("together", member(), member());
            case 6 -> call("busiest", near(0, 1));
            case 7 -> call("classes");
            case 8 -> call("classOf", member());
            case 9 -> call("classBits", near(0, 4));
            case 10 -> call("splits", near(0, 10));
            case 11 -> call("feud");
            case 12 -> call("settles");
            case 13 -> call("lead", near(0, 4));
            case 14 -> call("costFor", order());
            case 15 -> call("reachFor", order(), member());
            case 16 -> call("cheapest", near(0, odds(50) ? 12 : 120), near(0, 1));
            case 17 -> call("reachedBy", near(0, odds(60) ? 20 : 199));
            case 18, 19 -> call("fundOf", near(0, 5));
            case 20 -> call("pot", near(0, 3));
            case 21, 22 -> call("paid", member());
            case 23 -> call("had", member(), odds(60) ? 1 + below(3) : near(1, 9));
            case 24 -> call("share");
            case 25 -> call("votes", near(0, 100));
            case 26 -> call("wereOut", member(), member());
            case 27 -> call("wereFund", aFund(), member());
            case 28 -> call("wereRule", near(0, 2), member());
            case 29 -> call("ruleFor", member());
            case 30 -> call("leaver", member());
            case 31 -> call("alone", set());
            case 32 -> askDear();
            case 33 -> call("sample", random.nextInt(), near(0, Math.max(1, oracle.count(0))));
            case 34 -> call("estimate", set());
            case 35 -> call("nearest", near(1, Math.max(1, oracle.count(0))), near(0, 1));
            case 36 -> call("within", near(1, Math.max(1, oracle.count(0))), near(0, 100));
            case 37 -> call("spell", odds(30) ? -1 : near(-1, 400));
            case 38 -> call("report", odds(30) ? -1 : near(-1, 60));
            default -> call("count", near(0, 15));
        }
    }

    /** The Oracle is slow at these. */
    private void askDear() throws Exception {
        dear++;
        if (odds(50) && dear < 12) {
            call("needs");
        } else if (oracle.count(0) < 7 || dear < 4) {
            int odds = near(0, 100);
            int suit = odds(70) ? below(40) : near(0, 999);
            int size = call("rests", odds, suit, -1);
            call("rests", odds, suit, 0);
            call("rests", odds, suit, near(0, Math.max(1, size)));
        }
    }

    /** Most of the document speaks of MEMBERS that are REACHED and FILED. */
    private void getGoing() throws Exception {
        call("send");
        call("days", near(1, 30));
        for (int i = 0; i < oracle.count(0); i++) {
            call("file", i);
        }
        call("fund", aFund());
        call("rule", near(0, 2));
    }

    private void run() throws Exception {
        if (odds(90)) {
            tell(rightText());
        }
        while (calls < CALLS - 50) {
            if (odds(2)) {
                tell(odds(40) ? rightText() : wrongText());
                if (odds(75)) {
                    getGoing();
                }
            } else if (odds(2)) {
                getGoing();
            } else if (odds(35)) {
                act();
            } else {
                ask();
            }
        }
    }

    public static void main(String[] args) throws Exception {
        int runs = args.length > 0 ? Integer.parseInt(args[0]) : 150;
        long first = args.length > 1 ? Long.parseLong(args[1]) : 1;
        Map<String, Method> methods = methodsOf(ClassOfMany.class);
        Map<String, Method> due = methodsOf(Oracle.class);
        if (!methods.keySet().equals(due.keySet())) {
            System.out.println("the faces are not the same");
            System.exit(1);
        }
        for (long seed = first; seed < first + runs; seed++) {
            RandomRunsTest test = new RandomRunsTest(seed, methods, due);
            try {
                test.run();
            } catch (Exception e) {
                System.out.print(test.log);
                System.out.println("seed " + seed + ": " + e + (e.getCause() == null ? "" : " " + e.getCause()));
                System.exit(1);
            }
        }
        System.out.println(runs + " random runs are as due");
    }
}
