import java.util.ArrayDeque;
import java.util.ArrayList;
import java.util.Arrays;
import java.util.Deque;
import java.util.List;

/**
 * The document a second time, in its slowest and plainest form, for RandomRunsTest: sub-classes by trying,
 * the least FUND by trying each one, who rests by its very words. It has the face of ClassOfMany.
 */
public final class Oracle {
    private static final int NONE = -1;

    private static final class Fault extends Exception {
        private static final long serialVersionUID = 1L;
        final int at;

        Fault(int at) {
            this.at = at;
        }
    }

    private record Token(int at, String word, boolean gapAhead) { }

    private static final class Member {
        int from;
        int to;
        int rate;
        List<Integer> by = new ArrayList<>();
    }

    private static final class Book {
        List<int[]> channels = new ArrayList<>();
        List<Member> members = new ArrayList<>();
        List<int[]> lines = new ArrayList<>();
        int fee = 0;
        int least = 0;
        int till = 99;
    }

    private static final class State implements Cloneable {
        int today = 0;
        int order = 0;
        int sent = -2;
        boolean[] out = new boolean[10];
        boolean[] filed = new boolean[10];
        boolean[] lazy = new boolean[10];
        boolean[][] foe = new boolean[10][10];
        int fund = 0;
        int rule = 0;
        int first = 0;
        int last = 99;

        State copy() {
            State s = new State();
            s.today = today;
            s.order = order;
            s.sent = sent;
            s.out = out.clone();
            s.filed = filed.clone();
            s.lazy = lazy.clone();
            for (int i = 0; i < 10; i++) {
                s.foe[i] = foe[i].clone();
            }
            s.fund = fund;
            s.rule = rule;
            s.first = first;
            s.last = last;
            return s;
        }
    }

    private static final class Result {
        int net;
        int left;
        int rounds;
        int[] pots;
        int[] paid = new int[10];
        int[][] had = new int[10][10];
        boolean[] counted = new boolean[10];
    }

    private StringBuilder tape = new StringBuilder();
    private Book book = new Book();
    private State state = new State();
    private Deque<State> acts = new ArrayDeque<>();

    // ---- told

    public int feed(int a, int b, int c, int d, int e) {
        if (tape.length() > 380) {
            return NONE;
        }
        for (int w : new int[] {a, b, c, d, e}) {
            tape.append((char) (w >>> 24));
            tape.append((char) (w >>> 16 & 255));
            tape.append((char) (w >>> 8 & 255));
            tape.append((char) (w & 255));
        }
        return tape.length();
    }

    public int back(int n) {
        if (n < 0 || n > tape.length()) {
            return NONE;
        }
        tape.setLength(tape.length() - n);
        return tape.length();
    }

    private static String kindOf(char c) {
        if (c >= 'a' && c <= 'z') {
            return "letter";
        }
        if (c >= '0' && c <= '9') {
            return "digit";
        }
        return "other";
    }

    private static List<Token> tokensOf(String text) {
        List<Token> tokens = new ArrayList<>();
        boolean gap = true;
        int at = 0;
        while (at < text.length()) {
            char c = text.charAt(at);
            if (c == ' ' || c == '\n') {
                gap = true;
                at++;
                continue;
            }
            int end = at + 1;
            String kind = kindOf(c);
            while (!kind.equals("other") && end < text.length() && kindOf(text.charAt(end)).equals(kind)) {
                end++;
            }
            tokens.add(new Token(at, text.substring(at, end), gap));
            gap = false;
            at = end;
        }
        tokens.add(new Token(text.length(), "", true));
        return tokens;
    }

    private static int number(Token t, int low, int high) throws Fault {
        if (!t.word.matches("[0-9]{1,5}") || !t.gapAhead) {
            throw new Fault(t.at);
        }
        int v = Integer.parseInt(t.word);
        if (v < low || v > high) {
            throw new Fault(t.at);
        }
        return v;
    }

    private static final List<String> WORDS =
            List.of("fund", "fee", "least", "till", "period", "channel", "member", "conflict");

    private static void parse(String text, Book b, State s) throws Fault {
        List<Token> ts = tokensOf(text);
        List<String> once = new ArrayList<>();
        int p = 0;
        while (!ts.get(p).word.isEmpty()) {
            Token w = ts.get(p++);
            int sort = WORDS.indexOf(w.word);
            if (sort < 0 || sort < 5 && once.contains(w.word)
                    || sort == 5 && b.channels.size() == 4 || sort == 6 && b.members.size() == 10) {
                throw new Fault(w.at);
            }
            once.add(w.word);
            List<Integer> line = new ArrayList<>();
            line.add(sort);
            int[] highs = {99999, 50, 999, 99, 99, 99, 99, b.members.size() - 1};
            int first = number(ts.get(p++), 0, highs[sort]);
            line.add(first);
            if (sort >= 4) {
                Token t = ts.get(p++);
                int second = switch (sort) {
                    case 4, 6 -> number(t, first, 99);
                    case 5 -> number(t, 1, 30);
                    default -> number(t, 0, b.members.size() - 1);
                };
                if (sort == 7 && (second == first || s.foe[first][second])) {
                    throw new Fault(t.at);
                }
                line.add(second);
            }
            if (sort == 6) {
                line.add(number(ts.get(p++), 1, 99));
                if (ts.get(p).word.equals("by") && ts.get(p).gapAhead) {
                    p++;
                    do {
                        Token t = ts.get(p++);
                        int c = number(t, 0, b.channels.size() - 1);
                        if (line.subList(4, line.size()).contains(c)) {
                            throw new Fault(t.at);
                        }
                        line.add(c);
                    } while (!ts.get(p).word.equals(";"));
                }
            }
            if (!ts.get(p).word.equals(";")) {
                throw new Fault(ts.get(p).at);
            }
            p++;
            enter(line, b, s);
        }
    }

    private static void enter(List<Integer> line, Book b, State s) {
        b.lines.add(line.stream().mapToInt(Integer::intValue).toArray());
        int one = line.get(1);
        switch (line.get(0)) {
            case 0 -> s.fund = one;
            case 1 -> b.fee = one;
            case 2 -> b.least = one;
            case 3 -> b.till = one;
            case 4 -> {
                s.first = one;
                s.last = line.get(2);
            }
            case 5 -> b.channels.add(new int[] {one, line.get(2)});
            case 6 -> {
                Member m = new Member();
                m.from = one;
                m.to = line.get(2);
                m.rate = line.get(3);
                m.by.addAll(line.subList(4, line.size()));
                b.members.add(m);
            }
            default -> {
                s.foe[one][line.get(2)] = true;
                s.foe[line.get(2)][one] = true;
            }
        }
    }

    public int text() {
        String text = tape.toString();
        tape.setLength(0);
        Book b = new Book();
        State s = new State();
        try {
            parse(text, b, s);
        } catch (Fault f) {
            return -4 - f.at;
        }
        s.order = new int[] {0, 0, 1, 6, 27}[b.channels.size()];
        book = b;
        state = s;
        acts.clear();
        return b.members.size();
    }

    // ---- acts

    private void act() {
        acts.addLast(state.copy());
        if (acts.size() > 12) {
            acts.removeFirst();
        }
    }

    private int n() {
        return book.members.size();
    }

    private boolean is(int i) {
        return i >= 0 && i < n();
    }

    public int days(int n) {
        if (n < 1 || n > 30 || state.today + n > 99) {
            return NONE;
        }
        act();
        return state.today += n;
    }

    /** The CHANNELS of an ORDER, or null. */
    private int[] orderOf(int order) {
        int k = book.channels.size();
        if (order < 0 || order >= Math.round(Math.pow(4, k))) {
            return null;
        }
        int[] digits = new int[k];
        int rest = order;
        for (int p = k - 1; p >= 0; p--) {
            digits[p] = rest % 4;
            rest /= 4;
        }
        int[] sorted = digits.clone();
        Arrays.sort(sorted);
        for (int p = 0; p < k; p++) {
            if (sorted[p] != p) {
                return null;
            }
        }
        return digits;
    }

    public int order(int order) {
        if (orderOf(order) == null || state.order == order || state.sent != -2) {
            return NONE;
        }
        act();
        int was = state.order;
        state.order = order;
        return was;
    }

    private int[] mail(int order, int i) {
        int cost = 0;
        int days = 0;
        for (int c : orderOf(order)) {
            cost += book.channels.get(c)[0];
            days += book.channels.get(c)[1];
            if (book.members.get(i).by.contains(c)) {
                return new int[] {cost, days};
            }
        }
        return new int[] {cost, -2};
    }

    private int costs(State s) {
        return s.sent == -2 ? 0 : costFor(s.order);
    }

    public int send() {
        if (state.sent != -2 || book.channels.isEmpty()) {
            return NONE;
        }
        act();
        state.sent = state.today;
        return costs(state);
    }

    private int reached(int i) {
        int days = state.sent == -2 ? -2 : mail(state.order, i)[1];
        return days == -2 ? -2 : state.sent + days;
    }

    private boolean isReached(int i) {
        return reached(i) != -2 && reached(i) <= state.today;
    }

    private static int bits(boolean[] row) {
        int set = 0;
        for (int i = 0; i < row.length; i++) {
            set |= row[i] ? 1 << i : 0;
        }
        return set;
    }

    public int out(int i) {
        if (!is(i) || state.out[i] || !isReached(i) || state.today > book.till) {
            return NONE;
        }
        act();
        state.out[i] = true;
        return Integer.bitCount(bits(state.out));
    }

    public int file(int i) {
        if (!is(i) || state.out[i] || state.filed[i] || !isReached(i)) {
            return NONE;
        }
        act();
        state.filed[i] = true;
        return Integer.bitCount(bits(state.filed));
    }

    public boolean lazy(int i, boolean is) {
        if (!is(i) || state.lazy[i] == is) {
            return false;
        }
        act();
        state.lazy[i] = is;
        return true;
    }

    public int fund(int v) {
        if (v < 0 || v > 99999 || v == state.fund) {
            return NONE;
        }
        act();
        int was = state.fund;
        state.fund = v;
        return was;
    }

    public int rule(int r) {
        if (r < 0 || r > 2 || r == state.rule) {
            return NONE;
        }
        act();
        int was = state.rule;
        state.rule = r;
        return was;
    }

    public int period(int from, int to) {
        if (from < 0 || from > 99 || to < from || to > 99 || from == state.first && to == state.last) {
            return NONE;
        }
        act();
        state.first = from;
        state.last = to;
        return count(12);
    }

    public int quarrel(int a, int b) {
        if (!is(a) || !is(b) || a == b) {
            return NONE;
        }
        act();
        state.foe[a][b] = !state.foe[a][b];
        state.foe[b][a] = state.foe[a][b];
        return state.foe[a][b] ? 1 : 0;
    }

    public int undo() {
        if (acts.isEmpty()) {
            return NONE;
        }
        state = acts.removeLast();
        return acts.size();
    }

    // ---- asked

    private boolean claimsOn(int i, int day) {
        return book.members.get(i).from <= day && day <= book.members.get(i).to;
    }

    private int claim(int i) {
        int days = 0;
        for (int day = state.first; day <= state.last; day++) {
            days += claimsOn(i, day) ? 1 : 0;
        }
        return days * book.members.get(i).rate;
    }

    public int member(int i, int what) {
        if (!is(i)) {
            return NONE;
        }
        Member m = book.members.get(i);
        return switch (what) {
            case 0 -> m.from;
            case 1 -> m.to;
            case 2 -> m.rate;
            case 3 -> m.by.stream().mapToInt(c -> 1 << c).sum();
            case 4 -> claim(i);
            case 5 -> state.out[i] ? 1 : 0;
            case 6 -> state.filed[i] ? 1 : 0;
            case 7 -> state.lazy[i] ? 1 : 0;
            case 8 -> reached(i);
            case 9 -> bits(state.foe[i]);
            default -> NONE;
        };
    }

    public int channel(int c, int what) {
        if (c < 0 || c >= book.channels.size() || what < 0 || what > 2) {
            return NONE;
        }
        if (what < 2) {
            return book.channels.get(c)[what];
        }
        return (int) book.members.stream().filter(m -> m.by.contains(c)).count();
    }

    public int line(int k, int what) {
        if (k < 0 || k >= book.lines.size() || what < 0) {
            return NONE;
        }
        int[] line = book.lines.get(k);
        return what < line.length ? line[what] : -2;
    }

    public int ranked(int k) {
        if (k < 0 || k >= n()) {
            return NONE;
        }
        List<Integer> all = new ArrayList<>();
        for (int i = 0; i < n(); i++) {
            all.add(i);
        }
        all.sort((a, b) -> claim(a) != claim(b) ? claim(b) - claim(a) : a - b);
        return all.get(k);
    }

    public int together(int i, int j) {
        if (!is(i) || !is(j) || i == j) {
            return NONE;
        }
        int days = 0;
        for (int day = state.first; day <= state.last; day++) {
            days += claimsOn(i, day) && claimsOn(j, day) ? 1 : 0;
        }
        return days;
    }

    public int busiest(int what) {
        if (what < 0 || what > 1) {
            return NONE;
        }
        int most = -1;
        int best = -1;
        for (int day = state.first; day <= state.last; day++) {
            int sum = 0;
            for (int i = 0; i < n(); i++) {
                sum += claimsOn(i, day) ? 1 : 0;
            }
            if (sum > most) {
                most = sum;
                best = day;
            }
        }
        return what == 0 ? most : best;
    }

    // ---- sub-classes

    /** Whether what is parted so far can go on from MEMBER i into at most k sets. */
    private boolean goesOn(State s, int[] group, int i, int k) {
        if (i == n()) {
            return true;
        }
        if (s.out[i]) {
            return goesOn(s, group, i + 1, k);
        }
        int opened = 0;
        for (int j = 0; j < i; j++) {
            opened = Math.max(opened, group[j] + 1);
        }
        for (int c = 0; c < Math.min(k, opened + 1); c++) {
            if (fits(s, group, i, c)) {
                group[i] = c;
                boolean goes = goesOn(s, group, i + 1, k);
                group[i] = -2;
                if (goes) {
                    return true;
                }
            }
        }
        return false;
    }

    private boolean fits(State s, int[] group, int i, int c) {
        for (int j = 0; j < n(); j++) {
            if (group[j] == c && s.foe[i][j]) {
                return false;
            }
        }
        return true;
    }

    private static int[] empty() {
        int[] group = new int[10];
        Arrays.fill(group, -2);
        return group;
    }

    private int fewest(State s) {
        int k = 0;
        while (!goesOn(s, empty(), 0, k)) {
            k++;
        }
        return k;
    }

    private int[] groups(State s) {
        int k = fewest(s);
        int[] group = empty();
        for (int i = 0; i < n(); i++) {
            for (int c = 0; c < k && !s.out[i]; c++) {
                if (fits(s, group, i, c)) {
                    group[i] = c;
                    if (goesOn(s, group, i + 1, k)) {
                        break;
                    }
                    group[i] = -2;
                }
            }
        }
        return group;
    }

    public int classes() {
        return fewest(state);
    }

    public int classOf(int i) {
        return is(i) ? groups(state)[i] : NONE;
    }

    public int classBits(int k) {
        if (k < 0 || k >= fewest(state)) {
            return NONE;
        }
        int[] group = groups(state);
        int set = 0;
        for (int i = 0; i < n(); i++) {
            set |= group[i] == k ? 1 << i : 0;
        }
        return set;
    }

    private int ways(int[] group, int i, int opened, int k) {
        if (i == n()) {
            return opened == k ? 1 : 0;
        }
        if (state.out[i]) {
            return ways(group, i + 1, opened, k);
        }
        int sum = 0;
        for (int c = 0; c <= opened; c++) {
            if (fits(state, group, i, c)) {
                group[i] = c;
                sum += ways(group, i + 1, Math.max(opened, c + 1), k);
                group[i] = -2;
            }
        }
        return sum;
    }

    public int splits(int k) {
        return k < 0 ? NONE : ways(empty(), 0, 0, k);
    }

    public int feud() {
        int best = 0;
        for (int set = 0; set < 1 << n(); set++) {
            boolean all = true;
            for (int i = 0; i < n(); i++) {
                for (int j = 0; j < n(); j++) {
                    if ((set >> i & set >> j & 1) == 1) {
                        all &= !state.out[i] && (i == j || state.foe[i][j]);
                    }
                }
            }
            if (all && Integer.bitCount(set) > Integer.bitCount(best)) {
                best = set;
            }
        }
        return best;
    }

    public int settles() {
        int now = fewest(state);
        for (int number = 0; number < 100; number++) {
            int a = number / 10;
            int b = number % 10;
            if (a < b && is(b) && state.foe[a][b]) {
                State s = state.copy();
                s.foe[a][b] = false;
                s.foe[b][a] = false;
                if (fewest(s) < now) {
                    return number;
                }
            }
        }
        return -2;
    }

    public int lead(int k) {
        int set = classBits(k);
        if (set == NONE) {
            return NONE;
        }
        for (int r = 0; r < n(); r++) {
            if ((set >> ranked(r) & 1) == 1) {
                return ranked(r);
            }
        }
        return -99;
    }

    // ---- notices

    public int costFor(int order) {
        if (orderOf(order) == null) {
            return NONE;
        }
        int sum = 0;
        for (int i = 0; i < n(); i++) {
            sum += mail(order, i)[0];
        }
        return sum;
    }

    public int reachFor(int order, int i) {
        return !is(i) || orderOf(order) == null ? NONE : mail(order, i)[1];
    }

    public int cheapest(int days, int what) {
        if (book.channels.isEmpty() || days < 0 || what < 0 || what > 1) {
            return NONE;
        }
        int best = -2;
        for (int order = 0; order < 256; order++) {
            boolean good = orderOf(order) != null;
            for (int i = 0; i < n() && good; i++) {
                good = book.members.get(i).by.isEmpty() || mail(order, i)[1] <= days;
            }
            if (good && (best == -2 || costFor(order) < costFor(best))) {
                best = order;
            }
        }
        return best == -2 || what == 1 ? best : costFor(best);
    }

    public int reachedBy(int day) {
        if (day < 0 || day > 199) {
            return NONE;
        }
        int set = 0;
        for (int i = 0; i < n(); i++) {
            set |= reached(i) != -2 && reached(i) <= day ? 1 << i : 0;
        }
        return set;
    }

    // ---- paid

    private Result pay(State s) {
        int[] group = groups(s);
        int[] claims = new int[10];
        for (int i = 0; i < n(); i++) {
            claims[i] = claim(i);
        }
        return pay(s, group, claims);
    }

    private Result pay(State s, int[] group, int[] claims) {
        Result r = new Result();
        r.net = Math.max(0, s.fund - costs(s) - s.fund * book.fee / 100);
        long allClaims = 0;
        long all = 0;
        long[] groupClaims = new long[10];
        long[] groupHeads = new long[10];
        for (int i = 0; i < n(); i++) {
            r.counted[i] = s.filed[i] && !s.out[i] && claims[i] > 0;
            if (r.counted[i]) {
                allClaims += claims[i];
                all++;
                groupClaims[group[i]] += claims[i];
                groupHeads[group[i]]++;
            }
        }
        long busy = Arrays.stream(groupHeads).filter(h -> h > 0).count();
        r.pots = new int[10];
        for (int k = 0; k < 10; k++) {
            if (groupHeads[k] > 0) {
                r.pots[k] = (int) switch (s.rule) {
                    case 0 -> r.net * groupClaims[k] / allClaims;
                    case 1 -> r.net * groupHeads[k] / all;
                    default -> r.net / busy;
                };
            }
        }
        r.left = r.net;
        for (int round = 1; round <= 9; round++) {
            long lacked = 0;
            for (int i = 0; i < n(); i++) {
                lacked += r.counted[i] && !s.lazy[i] ? claims[i] - r.paid[i] : 0;
            }
            int had = 0;
            for (int i = 0; i < n(); i++) {
                long lack = claims[i] - r.paid[i];
                if (r.counted[i] && !s.lazy[i] && lack > 0) {
                    long part = round == 1
                            ? (long) r.pots[group[i]] * claims[i] / groupClaims[group[i]] : r.left * lack / lacked;
                    int sent = (int) Math.min(lack, part);
                    r.had[round][i] = sent < book.least ? 0 : sent;
                    had += r.had[round][i];
                }
            }
            if (had == 0) {
                break;
            }
            for (int i = 0; i < n(); i++) {
                r.paid[i] += r.had[round][i];
            }
            r.left -= had;
            r.rounds = round;
        }
        return r;
    }

    public int fundOf(int what) {
        Result r = pay(state);
        int heads = 0;
        int full = 0;
        for (int i = 0; i < n(); i++) {
            heads += r.counted[i] ? 1 : 0;
            full += r.counted[i] && r.paid[i] == claim(i) ? 1 : 0;
        }
        return switch (what) {
            case 0 -> r.net;
            case 1 -> Arrays.stream(r.paid).sum();
            case 2 -> r.rounds;
            case 3 -> r.left;
            case 4 -> heads;
            case 5 -> full;
            default -> NONE;
        };
    }

    public int pot(int k) {
        return k < 0 || k >= fewest(state) ? NONE : pay(state).pots[k];
    }

    public int paid(int i) {
        return is(i) ? pay(state).paid[i] : NONE;
    }

    public int had(int i, int round) {
        return is(i) && round >= 1 && round <= 9 ? pay(state).had[round][i] : NONE;
    }

    private int countedClaims(Result r) {
        int sum = 0;
        for (int i = 0; i < n(); i++) {
            sum += r.counted[i] ? claim(i) : 0;
        }
        return sum;
    }

    public int share() {
        Result r = pay(state);
        int sum = countedClaims(r);
        return sum == 0 ? -2 : Arrays.stream(r.paid).sum() * 100 / sum;
    }

    public int votes(int hundredths) {
        if (hundredths < 0 || hundredths > 100) {
            return NONE;
        }
        Result r = pay(state);
        int all = countedClaims(r);
        int sum = 0;
        for (int i = 0; i < n(); i++) {
            sum += r.counted[i] && r.paid[i] * 100 / claim(i) >= hundredths ? claim(i) : 0;
        }
        return all == 0 ? -2 : sum > all - sum ? 1 : 0;
    }

    // ---- were

    public int wereOut(int i, int j) {
        if (!is(i) || !is(j)) {
            return NONE;
        }
        State s = state.copy();
        s.out[j] = true;
        return pay(s).paid[i];
    }

    public int wereFund(int v, int i) {
        if (!is(i) || v < 0 || v > 99999) {
            return NONE;
        }
        State s = state.copy();
        s.fund = v;
        return pay(s).paid[i];
    }

    public int wereRule(int r, int i) {
        if (!is(i) || r < 0 || r > 2) {
            return NONE;
        }
        State s = state.copy();
        s.rule = r;
        return pay(s).paid[i];
    }

    public int ruleFor(int i) {
        if (!is(i)) {
            return NONE;
        }
        int most = Math.max(wereRule(0, i), Math.max(wereRule(1, i), wereRule(2, i)));
        return wereRule(0, i) == most ? 0 : wereRule(1, i) == most ? 1 : 2;
    }

    public int leaver(int i) {
        if (!is(i)) {
            return NONE;
        }
        int best = -2;
        for (int j = n() - 1; j >= 0; j--) {
            if (j != i && !state.out[j] && wereOut(i, j) > paid(i)
                    && (best == -2 || wereOut(i, j) >= wereOut(i, best))) {
                best = j;
            }
        }
        return best;
    }

    public int alone(int set) {
        if (set < 0 || set >= 1 << n()) {
            return NONE;
        }
        State s = state.copy();
        for (int i = 0; i < n(); i++) {
            s.out[i] |= (set >> i & 1) == 0;
        }
        int[] paid = pay(s).paid;
        int sum = 0;
        for (int i = 0; i < n(); i++) {
            sum += (set >> i & 1) * paid[i];
        }
        return sum;
    }

    public int needs() {
        State s = state.copy();
        int[] group = groups(s);
        int[] claims = new int[10];
        for (int i = 0; i < n(); i++) {
            claims[i] = claim(i);
        }
        for (int v = 0; v <= 99999; v++) {
            s.fund = v;
            Result r = pay(s, group, claims);
            boolean enough = true;
            for (int i = 0; i < n(); i++) {
                enough &= !r.counted[i] || s.lazy[i] || r.paid[i] == claims[i];
            }
            if (enough) {
                return v;
            }
        }
        return -2;
    }

    public int rests(int odds, int suit, int k) {
        if (odds < 0 || odds > 100 || suit < 0 || suit > 999 || k < -1) {
            return NONE;
        }
        int[][] paid = new int[1 << n()][];
        for (int set = 0; set < 1 << n(); set++) {
            State s = state.copy();
            for (int i = 0; i < n(); i++) {
                s.out[i] = (set >> i & 1) == 1;
                s.filed[i] = !s.out[i];
                s.lazy[i] = false;
            }
            paid[set] = pay(s).paid;
        }
        List<Integer> found = new ArrayList<>();
        for (int set = 0; set < 1 << n(); set++) {
            boolean rests = true;
            for (int i = 0; i < n(); i++) {
                int outside = Math.max(0, claim(i) * odds / 100 - suit);
                int inside = paid[set & ~(1 << i)][i];
                rests &= (set >> i & 1) == 1 ? inside <= outside : outside <= inside;
            }
            if (rests) {
                found.add(set);
            }
        }
        return k == -1 ? found.size() : k < found.size() ? found.get(k) : -2;
    }

    // ---- samples

    public int sample(int seed, int n) {
        if (n < 0 || n > n()) {
            return NONE;
        }
        List<Integer> undrawn = new ArrayList<>();
        for (int i = 0; i < n(); i++) {
            undrawn.add(i);
        }
        long x = seed & 0xffffffffL;
        int set = 0;
        for (int d = 0; d < n; d++) {
            x = (x * 1103515245L + 12345L) & 0xffffffffL;
            set |= 1 << undrawn.remove((int) ((x >> 16) % undrawn.size()));
        }
        return set;
    }

    public int estimate(int set) {
        if (set <= 0 || set >= 1 << n()) {
            return NONE;
        }
        int sum = 0;
        int heads = 0;
        for (int i = 0; i < n(); i++) {
            if ((set >> i & 1) == 1) {
                sum += claim(i);
                heads++;
            }
        }
        return n() * sum / heads;
    }

    public int nearest(int n, int what) {
        if (n < 1 || n > n() || what < 0 || what > 1) {
            return NONE;
        }
        int[] best = {Integer.MAX_VALUE, 0};
        for (int set = (1 << n()) - 1; set > 0; set--) {
            int off = Math.abs(estimate(set) - count(12));
            if (Integer.bitCount(set) == n && off <= best[0]) {
                best = new int[] {off, set};
            }
        }
        return best[what];
    }

    public int within(int n, int hundredths) {
        if (n < 1 || n > n() || hundredths < 0 || hundredths > 100) {
            return NONE;
        }
        int sum = 0;
        for (int set = 1; set < 1 << n(); set++) {
            if (Integer.bitCount(set) == n
                    && Math.abs(estimate(set) - count(12)) <= count(12) * hundredths / 100) {
                sum++;
            }
        }
        return sum;
    }

    // ---- texts

    private static int answer(String text, int i) {
        return i == -1 ? text.length() : i < text.length() ? text.charAt(i) : -2;
    }

    public int spell(int i) {
        if (i < -1) {
            return NONE;
        }
        StringBuilder b = new StringBuilder();
        b.append("fund " + state.fund + ";fee " + book.fee + ";least " + book.least + ";till " + book.till);
        b.append(";period " + state.first + " " + state.last + ";");
        for (int[] c : book.channels) {
            b.append("channel " + c[0] + " " + c[1] + ";");
        }
        for (Member m : book.members) {
            b.append("member " + m.from + " " + m.to + " " + m.rate + (m.by.isEmpty() ? "" : " by"));
            m.by.stream().sorted().forEach(c -> b.append(" " + c));
            b.append(";");
        }
        for (int a = 0; a < 10; a++) {
            for (int c = a + 1; c < 10; c++) {
                b.append(state.foe[a][c] ? "conflict " + a + " " + c + ";" : "");
            }
        }
        return answer(b.toString(), i);
    }

    public int report(int i) {
        if (i < -1) {
            return NONE;
        }
        Result r = pay(state);
        StringBuilder b = new StringBuilder();
        for (int m = 0; m < n(); m++) {
            b.append(r.counted[m] ? "paid " + m + " " + r.paid[m] + ";" : "");
        }
        return answer(b + "next " + r.left + ";", i);
    }

    public int count(int what) {
        int conflicts = 0;
        int claims = 0;
        for (int i = 0; i < n(); i++) {
            conflicts += Integer.bitCount(bits(state.foe[i]));
            claims += claim(i);
        }
        int[] all = {n(), book.channels.size(), conflicts / 2, state.today, state.fund, state.rule, costs(state),
            state.sent, state.order, bits(state.out), bits(state.filed), bits(state.lazy), claims, acts.size(),
            tape.length(), book.lines.size()};
        return what < 0 || what > 15 ? NONE : all[what];
    }
}
