import java.util.Arrays;

/**
 * A class of many: members with claims by days, the sub-classes that conflicts make of them, notices,
 * who files and who opts out, and a fund that is shared among those who filed.
 *
 * <p>Every row is made in a constructor and used again, so that no call makes an object.
 */
public final class ClassOfMany {
    public static final int NONE = -1;

    private static final int MISSING = -2;
    private static final int FAULT_BASE = -4;
    private static final int MOST_MEMBERS = 10;
    private static final int MOST_CHANNELS = 4;
    private static final int MOST_SETS = 1 << MOST_MEMBERS;
    private static final int MOST_BYTES = 400;
    private static final int BYTES_A_FEED = 20;
    // The shortest LINE has six bytes and an N with its blank two, so 400 bytes never fill these.
    private static final int MOST_LINES = 80;
    private static final int MOST_NUMBERS = 200;
    private static final int MOST_DIGITS = 5;
    private static final int MOST_FUND = 99999;
    private static final int MOST_FEE = 50;
    private static final int MOST_LEAST = 999;
    private static final int MOST_SUIT = 999;
    private static final int MOST_COST = 99;
    private static final int MOST_WAIT = 30;
    private static final int MOST_RATE = 99;
    private static final int MOST_DAYS_AT_ONCE = 30;
    private static final int MOST_UNDONE = 12;
    private static final int MOST_ROUNDS = 9;
    private static final int RULES = 3;
    private static final int LAST_DAY = 99;
    private static final int LAST_ASKED_DAY = 199;
    // The longest TEXT that spell() writes has 960 bytes.
    private static final int PAGE_BYTES = 1024;

    // No NET that is asked for on the way is so great.
    private static final long BEYOND_ALL = 1L << 60;

    private static final int BLANK = 32;
    private static final int LINE_END = 10;

    private static final int SORT_FUND = 0;
    private static final int SORT_FEE = 1;
    private static final int SORT_LEAST = 2;
    private static final int SORT_TILL = 3;
    private static final int SORT_PERIOD = 4;
    private static final int SORT_CHANNEL = 5;
    private static final int SORT_MEMBER = 6;
    private static final int SORT_CONFLICT = 7;
    private static final int SORTS = 8;

    private Told told;
    private final Standing now;
    private final Standing were;
    private final Journal journal;
    private final Reader reader;
    private final Splitter splitter;
    private final Payer payer;
    private final Resting resting;
    private final Page page;

    public ClassOfMany() {
        told = new Told();
        now = new Standing();
        were = new Standing();
        journal = new Journal();
        reader = new Reader();
        splitter = new Splitter();
        payer = new Payer();
        resting = new Resting();
        page = new Page();
    }

    // ---- told

    public int feed(int a, int b, int c, int d, int e) {
        if (reader.length + BYTES_A_FEED > MOST_BYTES) {
            return NONE;
        }
        reader.putFour(a);
        reader.putFour(b);
        reader.putFour(c);
        reader.putFour(d);
        reader.putFour(e);
        return reader.length;
    }

    public int back(int n) {
        if (n < 0 || n > reader.length) {
            return NONE;
        }
        reader.length -= n;
        return reader.length;
    }

    public int text() {
        int fault = reader.read();
        reader.length = 0;
        if (fault != NONE) {
            return FAULT_BASE - fault;
        }
        Told older = told;
        told = reader.told;
        reader.told = older;
        now.copyFrom(reader.standing);
        journal.forget();
        resting.forget();
        return told.members;
    }

    // ---- acts

    /** Each ACT calls this ahead of its change, so that undo() finds how things stood. */
    private void remember() {
        journal.keep(now);
        resting.forget();
    }

    public int days(int n) {
        if (n < 1 || n > MOST_DAYS_AT_ONCE || now.today + n > LAST_DAY) {
            return NONE;
        }
        remember();
        now.today += n;
        return now.today;
    }

    public int order(int order) {
        if (!Mail.isOrder(told, order) || order == now.order || now.isSent()) {
            return NONE;
        }
        remember();
        int older = now.order;
        now.order = order;
        return older;
    }

    public int send() {
        if (now.isSent() || told.channels == 0) {
            return NONE;
        }
        remember();
        now.sentDay = now.today;
        now.costs = Mail.costsBy(told, now.order);
        return now.costs;
    }

    public int out(int i) {
        if (!isMember(i) || has(now.out, i) || !isReached(i) || now.today > told.till) {
            return NONE;
        }
        remember();
        now.out |= 1 << i;
        return Integer.bitCount(now.out);
    }

    public int file(int i) {
        if (!isMember(i) || has(now.out, i) || has(now.filed, i) || !isReached(i)) {
            return NONE;
        }
        remember();
        now.filed |= 1 << i;
        return Integer.bitCount(now.filed);
    }

    public boolean lazy(int i, boolean is) {
        if (!isMember(i) || has(now.lazy, i) == is) {
            return false;
        }
        remember();
        now.lazy ^= 1 << i;
        return true;
    }

    public int fund(int v) {
        if (!isFund(v) || v == now.fund) {
            return NONE;
        }
        remember();
        int older = now.fund;
        now.fund = v;
        return older;
    }

    public int rule(int r) {
        if (!isRule(r) || r == now.rule) {
            return NONE;
        }
        remember();
        int older = now.rule;
        now.rule = r;
        return older;
    }

    public int period(int from, int to) {
        if (from < 0 || to < from || to > LAST_DAY) {
            return NONE;
        }
        if (from == now.periodFrom && to == now.periodTo) {
            return NONE;
        }
        remember();
        now.periodFrom = from;
        now.periodTo = to;
        return claimsOf(everyone());
    }

    public int quarrel(int a, int b) {
        if (!arePair(a, b)) {
            return NONE;
        }
        remember();
        now.toggleConflict(a, b);
        return has(now.foes[a], b) ? 1 : 0;
    }

    public int undo() {
        if (journal.size == 0) {
            return NONE;
        }
        journal.restore(now);
        resting.forget();
        return journal.size;
    }

    // ---- asked

    public int member(int i, int what) {
        if (!isMember(i)) {
            return NONE;
        }
        switch (what) {
            case 0: return told.from[i];
            case 1: return told.to[i];
            case 2: return told.rate[i];
            case 3: return told.reach[i];
            case 4: return now.claimOf(told, i);
            case 5: return bitOf(now.out, i);
            case 6: return bitOf(now.filed, i);
            case 7: return bitOf(now.lazy, i);
            case 8: return reachDay(i);
            case 9: return now.foes[i];
            default: return NONE;
        }
    }

    public int channel(int c, int what) {
        if (c < 0 || c >= told.channels) {
            return NONE;
        }
        switch (what) {
            case 0: return told.cost[c];
            case 1: return told.wait[c];
            case 2: return reachedThrough(c);
            default: return NONE;
        }
    }

    private int reachedThrough(int c) {
        int sum = 0;
        for (int i = 0; i < told.members; i++) {
            sum += bitOf(told.reach[i], c);
        }
        return sum;
    }

    public int line(int k, int what) {
        if (k < 0 || k >= told.lines || what < 0) {
            return NONE;
        }
        if (what == 0) {
            return told.sorts[k];
        }
        if (what > told.sizes[k]) {
            return MISSING;
        }
        return told.numbers[told.starts[k] + what - 1];
    }

    public int ranked(int k) {
        for (int i = 0; i < told.members; i++) {
            if (rankOf(i) == k) {
                return i;
            }
        }
        return NONE;
    }

    private int rankOf(int i) {
        int claim = now.claimOf(told, i);
        int ahead = 0;
        for (int j = 0; j < told.members; j++) {
            int other = now.claimOf(told, j);
            if (other > claim || (other == claim && j < i)) {
                ahead++;
            }
        }
        return ahead;
    }

    public int together(int i, int j) {
        if (!arePair(i, j)) {
            return NONE;
        }
        int first = Math.max(now.periodFrom, Math.max(told.from[i], told.from[j]));
        int last = Math.min(now.periodTo, Math.min(told.to[i], told.to[j]));
        return Math.max(0, last - first + 1);
    }

    public int busiest(int what) {
        if (what != 0 && what != 1) {
            return NONE;
        }
        int most = NONE;
        int best = now.periodFrom;
        for (int day = now.periodFrom; day <= now.periodTo; day++) {
            int busy = claimantsOn(day);
            if (busy > most) {
                most = busy;
                best = day;
            }
        }
        return what == 0 ? most : best;
    }

    private int claimantsOn(int day) {
        int sum = 0;
        for (int i = 0; i < told.members; i++) {
            if (told.from[i] <= day && day <= told.to[i]) {
                sum++;
            }
        }
        return sum;
    }

    // ---- sub-classes

    private void splitNow() {
        splitter.split(told, now);
    }

    public int classes() {
        splitNow();
        return splitter.size;
    }

    public int classOf(int i) {
        if (!isMember(i)) {
            return NONE;
        }
        splitNow();
        return splitter.groupOf(i);
    }

    public int classBits(int k) {
        splitNow();
        return splitter.isGroup(k) ? splitter.groups[k] : NONE;
    }

    public int splits(int k) {
        if (k < 0) {
            return NONE;
        }
        splitter.take(told, now);
        return splitter.waysInto(k);
    }

    public int feud() {
        splitter.take(told, now);
        return splitter.greatestFeud();
    }

    public int settles() {
        splitNow();
        int fewest = splitter.size;
        for (int a = 0; a < told.members; a++) {
            for (int b = a + 1; b < told.members; b++) {
                if (has(now.foes[a], b) && splitter.isFewerWithout(a, b, fewest)) {
                    return 10 * a + b;
                }
            }
        }
        return MISSING;
    }

    public int lead(int k) {
        splitNow();
        if (!splitter.isGroup(k)) {
            return NONE;
        }
        int most = NONE;
        int best = NONE;
        for (int i = 0; i < told.members; i++) {
            if (has(splitter.groups[k], i) && now.claimOf(told, i) > most) {
                most = now.claimOf(told, i);
                best = i;
            }
        }
        return best;
    }

    // ---- notices

    public int costFor(int order) {
        return Mail.isOrder(told, order) ? Mail.costsBy(told, order) : NONE;
    }

    public int reachFor(int order, int i) {
        if (!isMember(i) || !Mail.isOrder(told, order)) {
            return NONE;
        }
        return Mail.daysTo(told, order, i);
    }

    public int cheapest(int days, int what) {
        if (told.channels == 0 || days < 0 || (what != 0 && what != 1)) {
            return NONE;
        }
        int least = MISSING;
        int best = MISSING;
        int orders = Mail.numbersOf(told.channels);
        for (int order = 0; order < orders; order++) {
            if (Mail.isOrder(told, order) && Mail.isInTime(told, order, days)) {
                int costs = Mail.costsBy(told, order);
                if (best == MISSING || costs < least) {
                    least = costs;
                    best = order;
                }
            }
        }
        return what == 0 ? least : best;
    }

    public int reachedBy(int day) {
        if (day < 0 || day > LAST_ASKED_DAY) {
            return NONE;
        }
        int set = 0;
        for (int i = 0; i < told.members; i++) {
            int from = reachDay(i);
            if (from != MISSING && from <= day) {
                set |= 1 << i;
            }
        }
        return set;
    }

    // ---- paid

    private void payNow() {
        payer.pay(splitter, told, now);
    }

    public int fundOf(int what) {
        payNow();
        switch (what) {
            case 0: return payer.net;
            case 1: return payer.net - payer.left;
            case 2: return payer.rounds;
            case 3: return payer.left;
            case 4: return payer.heads;
            case 5: return payer.satisfied(told.members);
            default: return NONE;
        }
    }

    public int pot(int k) {
        payNow();
        return splitter.isGroup(k) ? payer.pots[k] : NONE;
    }

    public int paid(int i) {
        if (!isMember(i)) {
            return NONE;
        }
        payNow();
        return payer.paidTo[i];
    }

    public int had(int i, int round) {
        if (!isMember(i) || round < 1 || round > MOST_ROUNDS) {
            return NONE;
        }
        payNow();
        return payer.hadIn[(round - 1) * MOST_MEMBERS + i];
    }

    public int share() {
        payNow();
        if (payer.claimsInAll <= 0) {
            return MISSING;
        }
        return (payer.net - payer.left) * 100 / payer.claimsInAll;
    }

    public int votes(int hundredths) {
        if (!isHundredths(hundredths)) {
            return NONE;
        }
        payNow();
        if (payer.heads == 0) {
            return MISSING;
        }
        int content = 0;
        for (int i = 0; i < told.members; i++) {
            if (has(payer.counted, i) && payer.paidTo[i] * 100 >= hundredths * payer.claims[i]) {
                content += payer.claims[i];
            }
        }
        return 2 * content > payer.claimsInAll ? 1 : 0;
    }

    // ---- were

    private int paidIfOut(int i, int others) {
        were.copyFrom(now);
        were.out |= others;
        payer.pay(splitter, told, were);
        return payer.paidTo[i];
    }

    private int paidIfRule(int i, int r) {
        were.copyFrom(now);
        were.rule = r;
        payer.pay(splitter, told, were);
        return payer.paidTo[i];
    }

    public int wereOut(int i, int j) {
        return isMember(i) && isMember(j) ? paidIfOut(i, 1 << j) : NONE;
    }

    public int wereFund(int v, int i) {
        if (!isMember(i) || !isFund(v)) {
            return NONE;
        }
        were.copyFrom(now);
        were.fund = v;
        payer.pay(splitter, told, were);
        return payer.paidTo[i];
    }

    public int wereRule(int r, int i) {
        return isMember(i) && isRule(r) ? paidIfRule(i, r) : NONE;
    }

    public int ruleFor(int i) {
        if (!isMember(i)) {
            return NONE;
        }
        int most = NONE;
        int best = 0;
        for (int r = 0; r < RULES; r++) {
            int sum = paidIfRule(i, r);
            if (sum > most) {
                most = sum;
                best = r;
            }
        }
        return best;
    }

    public int leaver(int i) {
        if (!isMember(i)) {
            return NONE;
        }
        int most = paidIfOut(i, 0);
        int best = MISSING;
        for (int j = 0; j < told.members; j++) {
            if (j != i && !has(now.out, j)) {
                int sum = paidIfOut(i, 1 << j);
                if (sum > most) {
                    most = sum;
                    best = j;
                }
            }
        }
        return best;
    }

    public int alone(int set) {
        if (!isSet(set)) {
            return NONE;
        }
        were.copyFrom(now);
        were.out |= everyone() & ~set;
        payer.pay(splitter, told, were);
        return payer.net - payer.left;
    }

    public int needs() {
        int net = payer.leastNet(splitter, told, now);
        if (net == MISSING) {
            return MISSING;
        }
        return net == 0 ? 0 : fundFor(net);
    }

    /** The least FUND whose NET is that great: NET never falls as FUND grows. */
    private int fundFor(int net) {
        int low = 0;
        int high = MOST_FUND;
        for (int step = 0; step < 20 && low < high; step++) {
            int middle = (low + high) / 2;
            if (netOf(told, now.costs, middle) >= net) {
                high = middle;
            } else {
                low = middle + 1;
            }
        }
        return low;
    }

    public int rests(int odds, int suit, int k) {
        if (!isHundredths(odds) || suit < 0 || suit > MOST_SUIT || k < NONE) {
            return NONE;
        }
        if (!resting.isKnown(odds, suit)) {
            were.copyFrom(now);
            resting.find(splitter, payer, told, were, odds, suit);
        }
        if (k == NONE) {
            return resting.size;
        }
        return k < resting.size ? resting.sets[k] : MISSING;
    }

    // ---- samples

    public int sample(int seed, int n) {
        if (n < 0 || n > told.members) {
            return NONE;
        }
        int x = seed;
        int set = 0;
        for (int drawn = 0; drawn < n; drawn++) {
            x = x * 1103515245 + 12345;
            int undrawn = told.members - drawn;
            if (undrawn > 0) {
                set |= 1 << undrawnMember(set, (x >>> 16) % undrawn);
            }
        }
        return set;
    }

    private int undrawnMember(int drawn, int k) {
        int ahead = 0;
        for (int i = 0; i < told.members; i++) {
            if (!has(drawn, i)) {
                if (ahead == k) {
                    return i;
                }
                ahead++;
            }
        }
        return 0;
    }

    public int estimate(int set) {
        if (!isSet(set) || set == 0) {
            return NONE;
        }
        return estimateBy(set);
    }

    private int estimateBy(int set) {
        int heads = Integer.bitCount(set);
        return heads == 0 ? 0 : told.members * claimsOf(set) / heads;
    }

    public int nearest(int n, int what) {
        if (n < 1 || n > told.members || (what != 0 && what != 1)) {
            return NONE;
        }
        int all = claimsOf(everyone());
        int least = MISSING;
        int best = MISSING;
        for (int set = 1; set <= everyone(); set++) {
            if (Integer.bitCount(set) == n) {
                int off = Math.abs(estimateBy(set) - all);
                if (best == MISSING || off < least) {
                    least = off;
                    best = set;
                }
            }
        }
        return what == 0 ? least : best;
    }

    public int within(int n, int hundredths) {
        if (n < 1 || n > told.members || !isHundredths(hundredths)) {
            return NONE;
        }
        int all = claimsOf(everyone());
        int sum = 0;
        for (int set = 1; set <= everyone(); set++) {
            if (Integer.bitCount(set) == n && Math.abs(estimateBy(set) - all) * 100 <= hundredths * all) {
                sum++;
            }
        }
        return sum;
    }

    // ---- texts

    public int spell(int i) {
        if (i < NONE) {
            return NONE;
        }
        page.clear();
        page.putOne(wordOf(SORT_FUND), now.fund);
        page.putOne(wordOf(SORT_FEE), told.fee);
        page.putOne(wordOf(SORT_LEAST), told.least);
        page.putOne(wordOf(SORT_TILL), told.till);
        page.putTwo(wordOf(SORT_PERIOD), now.periodFrom, now.periodTo);
        for (int c = 0; c < told.channels; c++) {
            page.putTwo(wordOf(SORT_CHANNEL), told.cost[c], told.wait[c]);
        }
        for (int m = 0; m < told.members; m++) {
            spellMember(m);
        }
        spellConflicts();
        return page.answer(i);
    }

    private void spellMember(int m) {
        page.putText(wordOf(SORT_MEMBER));
        page.putNumber(told.from[m]);
        page.putNumber(told.to[m]);
        page.putNumber(told.rate[m]);
        if (told.reach[m] != 0) {
            page.putText(" by");
        }
        for (int c = 0; c < told.channels; c++) {
            if (has(told.reach[m], c)) {
                page.putNumber(c);
            }
        }
        page.putText(";");
    }

    private void spellConflicts() {
        for (int a = 0; a < told.members; a++) {
            for (int b = a + 1; b < told.members; b++) {
                if (has(now.foes[a], b)) {
                    page.putTwo(wordOf(SORT_CONFLICT), a, b);
                }
            }
        }
    }

    public int report(int i) {
        if (i < NONE) {
            return NONE;
        }
        payNow();
        page.clear();
        for (int m = 0; m < told.members; m++) {
            if (has(payer.counted, m)) {
                page.putTwo("paid", m, payer.paidTo[m]);
            }
        }
        page.putOne("next", payer.left);
        return page.answer(i);
    }

    public int count(int what) {
        switch (what) {
            case 0: return told.members;
            case 1: return told.channels;
            case 2: return conflictCount();
            case 3: return now.today;
            case 4: return now.fund;
            case 5: return now.rule;
            case 6: return now.costs;
            case 7: return now.sentDay;
            case 8: return now.order;
            case 9: return now.out;
            case 10: return now.filed;
            case 11: return now.lazy;
            case 12: return claimsOf(everyone());
            case 13: return journal.size;
            case 14: return reader.length;
            case 15: return told.lines;
            default: return NONE;
        }
    }

    private int conflictCount() {
        int ends = 0;
        for (int i = 0; i < told.members; i++) {
            ends += Integer.bitCount(now.foes[i]);
        }
        return ends / 2;
    }

    // ---- what the calls share

    private int everyone() {
        return (1 << told.members) - 1;
    }

    private boolean isMember(int i) {
        return i >= 0 && i < told.members;
    }

    private boolean arePair(int a, int b) {
        return isMember(a) && isMember(b) && a != b;
    }

    private boolean isSet(int set) {
        return set >= 0 && set <= everyone();
    }

    private static boolean isFund(int v) {
        return v >= 0 && v <= MOST_FUND;
    }

    private static boolean isRule(int r) {
        return r >= 0 && r < RULES;
    }

    private static boolean isHundredths(int v) {
        return v >= 0 && v <= 100;
    }

    private static boolean has(int set, int i) {
        return ((set >> i) & 1) != 0;
    }

    private static int bitOf(int set, int i) {
        return (set >> i) & 1;
    }

    private int claimsOf(int set) {
        int sum = 0;
        for (int i = 0; i < told.members; i++) {
            if (has(set, i)) {
                sum += now.claimOf(told, i);
            }
        }
        return sum;
    }

    private int reachDay(int i) {
        if (!now.isSent()) {
            return MISSING;
        }
        int behind = Mail.daysTo(told, now.order, i);
        return behind == MISSING ? MISSING : now.sentDay + behind;
    }

    private boolean isReached(int i) {
        int from = reachDay(i);
        return from != MISSING && from <= now.today;
    }

    private static int netOf(Told told, int costs, int fund) {
        return Math.max(0, fund - costs - fund * told.fee / 100);
    }

    private static String wordOf(int sort) {
        switch (sort) {
            case SORT_FUND: return "fund";
            case SORT_FEE: return "fee";
            case SORT_LEAST: return "least";
            case SORT_TILL: return "till";
            case SORT_PERIOD: return "period";
            case SORT_CHANNEL: return "channel";
            case SORT_MEMBER: return "member";
            default: return "conflict";
        }
    }

    /** What a TEXT fixes: no ACT changes it. */
    private static final class Told {
        int members;
        int channels;
        final int[] from = new int[MOST_MEMBERS];
        final int[] to = new int[MOST_MEMBERS];
        final int[] rate = new int[MOST_MEMBERS];
        final int[] reach = new int[MOST_MEMBERS];
        final int[] cost = new int[MOST_CHANNELS];
        final int[] wait = new int[MOST_CHANNELS];
        int fee;
        int least;
        int till = LAST_DAY;
        int lines;
        final int[] sorts = new int[MOST_LINES];
        final int[] starts = new int[MOST_LINES];
        final int[] sizes = new int[MOST_LINES];
        int used;
        final int[] numbers = new int[MOST_NUMBERS];

        void clear() {
            members = 0;
            channels = 0;
            fee = 0;
            least = 0;
            till = LAST_DAY;
            lines = 0;
            used = 0;
        }

        void openLine(int sort) {
            if (lines < MOST_LINES) {
                sorts[lines] = sort;
                starts[lines] = used;
                sizes[lines] = 0;
                lines++;
            }
        }

        void addNumber(int value) {
            if (lines > 0 && used < MOST_NUMBERS) {
                numbers[used] = value;
                used++;
                sizes[lines - 1]++;
            }
        }
    }

    /** What ACTS change; a second one tells how things WERE, and the journal keeps older ones. */
    private static final class Standing {
        int today;
        int order;
        int sentDay = MISSING;
        int costs;
        int out;
        int filed;
        int lazy;
        int fund;
        int rule;
        int periodFrom;
        int periodTo = LAST_DAY;
        final int[] foes = new int[MOST_MEMBERS];

        void clear() {
            today = 0;
            order = 0;
            sentDay = MISSING;
            costs = 0;
            out = 0;
            filed = 0;
            lazy = 0;
            fund = 0;
            rule = 0;
            periodFrom = 0;
            periodTo = LAST_DAY;
            Arrays.fill(foes, 0);
        }

        void copyFrom(Standing other) {
            today = other.today;
            order = other.order;
            sentDay = other.sentDay;
            costs = other.costs;
            out = other.out;
            filed = other.filed;
            lazy = other.lazy;
            fund = other.fund;
            rule = other.rule;
            periodFrom = other.periodFrom;
            periodTo = other.periodTo;
            System.arraycopy(other.foes, 0, foes, 0, MOST_MEMBERS);
        }

        boolean isSent() {
            return sentDay != MISSING;
        }

        void toggleConflict(int a, int b) {
            foes[a] ^= 1 << b;
            foes[b] ^= 1 << a;
        }

        int claimOf(Told told, int i) {
            int first = Math.max(periodFrom, told.from[i]);
            int last = Math.min(periodTo, told.to[i]);
            return told.rate[i] * Math.max(0, last - first + 1);
        }
    }

    /** How things stood ahead of the latest ACTS: a ring, whose oldest place is used again. */
    private static final class Journal {
        private final Standing[] kept = new Standing[MOST_UNDONE];
        private int next;
        int size;

        Journal() {
            for (int k = 0; k < MOST_UNDONE; k++) {
                kept[k] = new Standing();
            }
        }

        void keep(Standing standing) {
            kept[next].copyFrom(standing);
            next = (next + 1) % MOST_UNDONE;
            size = Math.min(size + 1, MOST_UNDONE);
        }

        void restore(Standing standing) {
            if (size > 0) {
                next = (next + MOST_UNDONE - 1) % MOST_UNDONE;
                size--;
                standing.copyFrom(kept[next]);
            }
        }

        void forget() {
            size = 0;
        }
    }

    /** The tape, read as a TEXT. Behind the first fault each step does nothing more. */
    private static final class Reader {
        private final int[] tape = new int[MOST_BYTES];
        int length;
        private int at;
        private int lastNumber;
        private int fault;
        private int seenSorts;
        // A TEXT is read into these, so that all stays as it is behind a fault.
        Told told = new Told();
        final Standing standing = new Standing();

        void putFour(int word) {
            for (int shift = 24; shift >= 0; shift -= 8) {
                if (length < MOST_BYTES) {
                    tape[length] = (word >> shift) & 255;
                    length++;
                }
            }
        }

        /** NONE if the TEXT is right, else its FAULT. */
        int read() {
            told.clear();
            standing.clear();
            at = 0;
            fault = NONE;
            seenSorts = 0;
            skipBlanks();
            for (int k = 0; k < MOST_LINES && at < length && isRight(); k++) {
                readLine();
                skipBlanks();
            }
            standing.order = Mail.orderAsTold(told.channels);
            return fault;
        }

        private boolean isRight() {
            return fault == NONE;
        }

        private void fail(int place) {
            if (fault == NONE) {
                fault = place;
            }
        }

        private void readLine() {
            int sort = readSort();
            if (!isRight()) {
                return;
            }
            seenSorts |= 1 << sort;
            told.openLine(sort);
            switch (sort) {
                case SORT_FUND:
                    standing.fund = readNumber(0, MOST_FUND);
                    break;
                case SORT_FEE:
                    told.fee = readNumber(0, MOST_FEE);
                    break;
                case SORT_LEAST:
                    told.least = readNumber(0, MOST_LEAST);
                    break;
                case SORT_TILL:
                    told.till = readNumber(0, LAST_DAY);
                    break;
                case SORT_PERIOD:
                    standing.periodFrom = readNumber(0, LAST_DAY);
                    standing.periodTo = readNumber(standing.periodFrom, LAST_DAY);
                    break;
                case SORT_CHANNEL:
                    readChannel();
                    break;
                case SORT_MEMBER:
                    readMember();
                    break;
                default:
                    readConflict();
                    break;
            }
            readEnd();
        }

        private int readSort() {
            int start = at;
            int end = wordEnd(start);
            for (int sort = 0; sort < SORTS; sort++) {
                if (isWord(wordOf(sort), start, end) && mayStand(sort)) {
                    at = end;
                    return sort;
                }
            }
            fail(start);
            return SORT_FUND;
        }

        private boolean mayStand(int sort) {
            if (sort <= SORT_PERIOD) {
                return !has(seenSorts, sort);
            }
            if (sort == SORT_CHANNEL) {
                return told.channels < MOST_CHANNELS;
            }
            return sort != SORT_MEMBER || told.members < MOST_MEMBERS;
        }

        private void readChannel() {
            int cost = readNumber(0, MOST_COST);
            int wait = readNumber(1, MOST_WAIT);
            if (isRight()) {
                told.cost[told.channels] = cost;
                told.wait[told.channels] = wait;
                told.channels++;
            }
        }

        private void readMember() {
            int from = readNumber(0, LAST_DAY);
            int to = readNumber(from, LAST_DAY);
            int rate = readNumber(1, MOST_RATE);
            int reach = readReach();
            if (isRight()) {
                told.from[told.members] = from;
                told.to[told.members] = to;
                told.rate[told.members] = rate;
                told.reach[told.members] = reach;
                told.members++;
            }
        }

        private int readReach() {
            skipBlanks();
            if (!isRight() || !isLetterAt(at)) {
                return 0;
            }
            int end = wordEnd(at);
            if (!isBlankAt(at - 1) || !isWord("by", at, end)) {
                fail(at);
                return 0;
            }
            at = end;
            int reach = 0;
            // One N more than there are CHANNELS is always a fault, so this is never too few.
            for (int k = 0; k <= MOST_CHANNELS; k++) {
                int c = readNumber(0, told.channels - 1);
                if (has(reach, c)) {
                    fail(lastNumber);
                }
                reach |= 1 << c;
                skipBlanks();
                if (!isRight() || !isDigitAt(at)) {
                    return reach;
                }
            }
            return reach;
        }

        private void readConflict() {
            int a = readNumber(0, told.members - 1);
            int b = readNumber(0, told.members - 1);
            if (!isRight()) {
                return;
            }
            if (a == b || has(standing.foes[a], b)) {
                fail(lastNumber);
                return;
            }
            standing.toggleConflict(a, b);
        }

        /** A number always stands behind a WORD or a number, so a blank must be right ahead of it. */
        private int readNumber(int least, int most) {
            if (!isRight()) {
                return least;
            }
            skipBlanks();
            if (!isDigitAt(at) || !isBlankAt(at - 1)) {
                fail(at);
                return least;
            }
            lastNumber = at;
            int value = 0;
            while (at < length && tape[at] >= '0' && tape[at] <= '9') {
                if (at - lastNumber < MOST_DIGITS) {
                    value = value * 10 + tape[at] - '0';
                }
                at++;
            }
            if (at - lastNumber > MOST_DIGITS || value < least || value > most) {
                fail(lastNumber);
                return least;
            }
            told.addNumber(value);
            return value;
        }

        private void readEnd() {
            if (!isRight()) {
                return;
            }
            skipBlanks();
            if (at < length && tape[at] == ';') {
                at++;
            } else {
                fail(at);
            }
        }

        private void skipBlanks() {
            while (at < length && (tape[at] == BLANK || tape[at] == LINE_END)) {
                at++;
            }
        }

        private int wordEnd(int start) {
            int end = start;
            while (end < length && isLetterAt(end)) {
                end++;
            }
            return end;
        }

        private boolean isWord(String word, int start, int end) {
            if (end - start != word.length()) {
                return false;
            }
            for (int k = 0; k < word.length(); k++) {
                if (tape[start + k] != word.charAt(k)) {
                    return false;
                }
            }
            return true;
        }

        private boolean isLetterAt(int place) {
            return place >= 0 && place < length && tape[place] >= 'a' && tape[place] <= 'z';
        }

        private boolean isDigitAt(int place) {
            return place >= 0 && place < length && tape[place] >= '0' && tape[place] <= '9';
        }

        private boolean isBlankAt(int place) {
            return place >= 0 && place < length && (tape[place] == BLANK || tape[place] == LINE_END);
        }
    }

    /** ORDERS of CHANNELS: what they cost, and behind how many days they reach. */
    private static final class Mail {
        static int numbersOf(int channels) {
            return 1 << (2 * channels);
        }

        static int orderAsTold(int channels) {
            int order = 0;
            for (int c = 0; c < channels; c++) {
                order = order * 4 + c;
            }
            return order;
        }

        static int channelAt(Told told, int order, int place) {
            return (order >> (2 * (told.channels - 1 - place))) & 3;
        }

        static boolean isOrder(Told told, int order) {
            if (order < 0 || order >= numbersOf(told.channels)) {
                return false;
            }
            int seen = 0;
            for (int place = 0; place < told.channels; place++) {
                seen |= 1 << channelAt(told, order, place);
            }
            return seen == (1 << told.channels) - 1;
        }

        static int costsBy(Told told, int order) {
            int sum = 0;
            for (int i = 0; i < told.members; i++) {
                sum += costTo(told, order, i);
            }
            return sum;
        }

        static int costTo(Told told, int order, int i) {
            int sum = 0;
            for (int place = 0; place < told.channels; place++) {
                int c = channelAt(told, order, place);
                sum += told.cost[c];
                if (has(told.reach[i], c)) {
                    return sum;
                }
            }
            return sum;
        }

        static int daysTo(Told told, int order, int i) {
            int sum = 0;
            for (int place = 0; place < told.channels; place++) {
                int c = channelAt(told, order, place);
                sum += told.wait[c];
                if (has(told.reach[i], c)) {
                    return sum;
                }
            }
            return MISSING;
        }

        /** A MEMBER that no CHANNEL reaches is MISSING, which is below every limit of days. */
        static boolean isInTime(Told told, int order, int days) {
            for (int i = 0; i < told.members; i++) {
                if (daysTo(told, order, i) > days) {
                    return false;
                }
            }
            return true;
        }
    }

    /** Parts MEMBERS into sets without a CONFLICT; it works on a copy of the CONFLICTS. */
    private static final class Splitter {
        private int members;
        private int in;
        private int limit;
        private final int[] foes = new int[MOST_MEMBERS];
        final int[] groups = new int[MOST_MEMBERS];
        int size;
        private final boolean[] peaceful = new boolean[MOST_SETS];
        private int[] ways = new int[MOST_SETS];
        private int[] fewerWays = new int[MOST_SETS];

        void take(Told told, Standing standing) {
            members = told.members;
            in = ((1 << members) - 1) & ~standing.out;
            size = 0;
            System.arraycopy(standing.foes, 0, foes, 0, MOST_MEMBERS);
        }

        void split(Told told, Standing standing) {
            take(told, standing);
            for (int k = 0; k <= members; k++) {
                if (fitsInto(k)) {
                    size = k;
                    return;
                }
            }
        }

        private boolean fitsInto(int k) {
            limit = k;
            Arrays.fill(groups, 0);
            return place(this, 0, 0);
        }

        /**
         * Places MEMBER i and all behind it, least group first. A group beyond the first empty one
         * would only be that one by another name, so it is never tried.
         */
        private static boolean place(Splitter s, int i, int opened) {
            if (i >= s.members) {
                return true;
            }
            if (!has(s.in, i)) {
                return place(s, i + 1, opened);
            }
            int last = Math.min(opened, s.limit - 1);
            for (int k = 0; k <= last; k++) {
                if ((s.groups[k] & s.foes[i]) == 0) {
                    s.groups[k] |= 1 << i;
                    if (place(s, i + 1, Math.max(opened, k + 1))) {
                        return true;
                    }
                    s.groups[k] ^= 1 << i;
                }
            }
            return false;
        }

        boolean isGroup(int k) {
            return k >= 0 && k < size;
        }

        int groupOf(int i) {
            for (int k = 0; k < size; k++) {
                if (has(groups[k], i)) {
                    return k;
                }
            }
            return MISSING;
        }

        boolean isFewerWithout(int a, int b, int fewest) {
            if (!has(in, a) || !has(in, b)) {
                return false;
            }
            foes[a] ^= 1 << b;
            foes[b] ^= 1 << a;
            boolean isFewer = fitsInto(fewest - 1);
            foes[a] ^= 1 << b;
            foes[b] ^= 1 << a;
            return isFewer;
        }

        /**
         * Of a set that is parted, its least MEMBER's part comes first, so each way counts once. All
         * that is left behind the first part lacks the least MEMBER of all: only such sets are kept.
         */
        int waysInto(int k) {
            if (k > members) {
                return 0;
            }
            if (k == 0 || in == 0) {
                return k == 0 && in == 0 ? 1 : 0;
            }
            markPeaceful();
            int later = in & (in - 1);
            Arrays.fill(ways, 0);
            ways[0] = 1;
            for (int parts = 1; parts < k; parts++) {
                int[] older = fewerWays;
                fewerWays = ways;
                ways = older;
                for (int set = 0; set < MOST_SETS; set++) {
                    ways[set] = (set & ~later) == 0 ? waysOf(set, fewerWays) : 0;
                }
            }
            return waysOf(in, ways);
        }

        private void markPeaceful() {
            peaceful[0] = true;
            for (int i = 0; i < members; i++) {
                int top = 1 << i;
                for (int rest = 0; rest < top; rest++) {
                    peaceful[top | rest] = peaceful[rest] && (foes[i] & rest) == 0;
                }
            }
        }

        private int waysOf(int set, int[] waysOfRest) {
            int rest = set & (set - 1);
            int least = set ^ rest;
            if (least == 0) {
                return 0;
            }
            int sum = 0;
            int others = rest;
            for (int step = 0; step < MOST_SETS; step++) {
                if (peaceful[least | others]) {
                    sum += waysOfRest[rest ^ others];
                }
                if (others == 0) {
                    break;
                }
                others = (others - 1) & rest;
            }
            return sum;
        }

        int greatestFeud() {
            int most = 0;
            int best = 0;
            for (int set = 1; set < 1 << members; set++) {
                int heads = Integer.bitCount(set);
                if (heads > most && (set & ~in) == 0 && isFeud(set)) {
                    most = heads;
                    best = set;
                }
            }
            return best;
        }

        private boolean isFeud(int set) {
            for (int i = 0; i < members; i++) {
                if (has(set, i) && (set & ~foes[i]) != 1 << i) {
                    return false;
                }
            }
            return true;
        }
    }

    /** Shares the NET among COUNTED MEMBERS, ROUND by ROUND. */
    private static final class Payer {
        final int[] claims = new int[MOST_MEMBERS];
        private final int[] groupOf = new int[MOST_MEMBERS];
        private final int[] groupClaims = new int[MOST_MEMBERS];
        private final int[] groupHeads = new int[MOST_MEMBERS];
        final int[] pots = new int[MOST_MEMBERS];
        final int[] paidTo = new int[MOST_MEMBERS];
        final int[] hadIn = new int[MOST_ROUNDS * MOST_MEMBERS];
        private int members;
        private int least;
        private int rule;
        int counted;
        private int hungry;
        int claimsInAll;
        int heads;
        private int groupsPaid;
        int net;
        int rounds;
        int left;

        void pay(Splitter splitter, Told told, Standing standing) {
            splitter.split(told, standing);
            gather(splitter, told, standing);
            net = netOf(told, standing.costs, standing.fund);
            fillPots(net);
            Arrays.fill(paidTo, 0);
            Arrays.fill(hadIn, 0);
            rounds = 0;
            left = net;
            boolean goesOn = payFirst();
            for (int round = 2; round <= MOST_ROUNDS && goesOn; round++) {
                goesOn = payFurther(round);
            }
        }

        /** Who is COUNTED, and what the SUB-CLASSES claim. */
        private void gather(Splitter splitter, Told told, Standing standing) {
            members = told.members;
            least = told.least;
            rule = standing.rule;
            Arrays.fill(groupClaims, 0);
            Arrays.fill(groupHeads, 0);
            counted = 0;
            heads = 0;
            claimsInAll = 0;
            groupsPaid = 0;
            for (int i = 0; i < members; i++) {
                claims[i] = standing.claimOf(told, i);
                if (has(standing.filed & ~standing.out, i) && claims[i] > 0) {
                    admit(i, splitter.groupOf(i));
                }
            }
            hungry = counted & ~standing.lazy;
        }

        private void admit(int i, int group) {
            if (group < 0 || group >= MOST_MEMBERS) {
                return;
            }
            if (groupHeads[group] == 0) {
                groupsPaid++;
            }
            counted |= 1 << i;
            groupOf[i] = group;
            groupClaims[group] += claims[i];
            groupHeads[group]++;
            claimsInAll += claims[i];
            heads++;
        }

        private void fillPots(int sum) {
            for (int k = 0; k < MOST_MEMBERS; k++) {
                pots[k] = groupHeads[k] == 0 ? 0 : (int) ((long) sum * weightOf(k) / weightInAll());
            }
        }

        private int weightOf(int group) {
            switch (rule) {
                case 0: return groupClaims[group];
                case 1: return groupHeads[group];
                default: return 1;
            }
        }

        /** At least 1, so that it divides where nobody is COUNTED, too. */
        private int weightInAll() {
            switch (rule) {
                case 0: return Math.max(1, claimsInAll);
                case 1: return Math.max(1, heads);
                default: return Math.max(1, groupsPaid);
            }
        }

        /** What a COUNTED MEMBER is sent in ROUND 1. */
        private int firstSent(int i) {
            int group = groupOf[i];
            if (groupClaims[group] <= 0) {
                return 0;
            }
            long part = (long) pots[group] * claims[i] / groupClaims[group];
            int sent = (int) Math.min(claims[i], part);
            return sent < least ? 0 : sent;
        }

        private boolean payFirst() {
            for (int i = 0; i < members; i++) {
                if (has(hungry, i)) {
                    give(i, firstSent(i), 1);
                }
            }
            return rounds == 1;
        }

        private boolean payFurther(int round) {
            int lacked = 0;
            for (int i = 0; i < members; i++) {
                if (has(hungry, i)) {
                    lacked += claims[i] - paidTo[i];
                }
            }
            if (lacked <= 0) {
                return false;
            }
            long shared = left;
            for (int i = 0; i < members; i++) {
                if (has(hungry, i)) {
                    int lack = claims[i] - paidTo[i];
                    int sent = (int) Math.min(lack, shared * lack / lacked);
                    give(i, sent < least ? 0 : sent, round);
                }
            }
            return rounds == round;
        }

        /** A ROUND counts as soon as somebody has something by it. */
        private void give(int i, int sum, int round) {
            if (sum > 0) {
                paidTo[i] += sum;
                hadIn[(round - 1) * MOST_MEMBERS + i] = sum;
                left -= sum;
                rounds = round;
            }
        }

        int satisfied(int memberCount) {
            int sum = 0;
            for (int i = 0; i < memberCount; i++) {
                if (has(counted, i) && paidTo[i] == claims[i]) {
                    sum++;
                }
            }
            return sum;
        }

        /**
         * The least NET by which each COUNTED MEMBER that is not LAZY has all its CLAIM; 0 if there is
         * no such MEMBER, MISSING if no FUND makes such a NET.
         *
         * <p>NET must be all these CLAIMS at least. Then what is LEFT is never below what they lack, so
         * ROUND 2 sends each of them all that it lacks, unless that is below LEAST. It is enough to look
         * at ROUND 1, and to go on to the next NET that can change what was wrong there.
         */
        int leastNet(Splitter splitter, Told told, Standing standing) {
            splitter.split(told, standing);
            gather(splitter, told, standing);
            long most = netOf(told, standing.costs, MOST_FUND);
            long tried = 0;
            for (int i = 0; i < members; i++) {
                if (has(hungry, i)) {
                    tried += claims[i];
                    if (claims[i] < least) {
                        return MISSING;
                    }
                }
            }
            // Each step but one fills a SUB-CLASS for good, so there are at most twelve.
            for (int step = 0; step < 100 && tried <= most; step++) {
                long next = nextNet((int) tried);
                if (next <= tried) {
                    return (int) tried;
                }
                tried = next;
            }
            return MISSING;
        }

        /**
         * The same NET, if it is enough; else the least one that can be. Who lacks something below LEAST
         * gets on only by a POT for all CLAIMS of its SUB-CLASS; and by ROUND 1 someone must have something.
         */
        private long nextNet(int sum) {
            if (hungry == 0) {
                return sum;
            }
            fillPots(sum);
            long soonest = BEYOND_ALL;
            for (int i = 0; i < members; i++) {
                if (has(hungry, i)) {
                    int lack = claims[i] - firstSent(i);
                    if (lack > 0 && lack < least) {
                        return netForPot(groupOf[i], groupClaims[groupOf[i]]);
                    }
                    soonest = Math.min(soonest, netForSent(i, Math.max(1, least)));
                }
            }
            return Math.max(sum, soonest);
        }

        private long netForSent(int i, long sent) {
            int group = groupOf[i];
            return netForPot(group, cutUp(sent * groupClaims[group], claims[i]));
        }

        private long netForPot(int group, long pot) {
            return cutUp(pot * weightInAll(), weightOf(group));
        }

        private static long cutUp(long sum, long parts) {
            return parts <= 0 ? 0 : (sum + parts - 1) / parts;
        }
    }

    /** Sets of MEMBERS that REST, kept till something changes, as they are asked for one by one. */
    private static final class Resting {
        private boolean known;
        private int odds;
        private int suit;
        int size;
        final int[] sets = new int[MOST_SETS];
        // Of each set that is OUT: those that are in and have more so than they would have OUT.
        private final int[] gladIn = new int[MOST_SETS];
        private final int[] outside = new int[MOST_MEMBERS];

        void forget() {
            known = false;
        }

        boolean isKnown(int someOdds, int someSuit) {
            return known && odds == someOdds && suit == someSuit;
        }

        void find(Splitter splitter, Payer payer, Told told, Standing were, int someOdds, int someSuit) {
            known = true;
            odds = someOdds;
            suit = someSuit;
            size = 0;
            for (int i = 0; i < told.members; i++) {
                outside[i] = Math.max(0, were.claimOf(told, i) * odds / 100 - suit);
            }
            int end = 1 << told.members;
            were.filed = end - 1;
            were.lazy = 0;
            for (int set = 0; set < end; set++) {
                were.out = set;
                payer.pay(splitter, told, were);
                if (weigh(told.members, set, payer) && noneComesIn(told.members, set)) {
                    sets[size] = set;
                    size++;
                }
            }
        }

        /** Whether nobody that is in would have more OUT. */
        private boolean weigh(int members, int set, Payer payer) {
            boolean isCalm = true;
            gladIn[set] = 0;
            for (int i = 0; i < members; i++) {
                if (!has(set, i)) {
                    if (payer.paidTo[i] > outside[i]) {
                        gladIn[set] |= 1 << i;
                    }
                    isCalm = isCalm && payer.paidTo[i] >= outside[i];
                }
            }
            return isCalm;
        }

        /** A set without one of its MEMBERS is a lesser number, so it has been weighed. */
        private boolean noneComesIn(int members, int set) {
            for (int i = 0; i < members; i++) {
                if (has(set, i) && has(gladIn[set ^ (1 << i)], i)) {
                    return false;
                }
            }
            return true;
        }
    }

    /** Bytes of a TEXT that is written anew at each call. */
    private static final class Page {
        private final byte[] row = new byte[PAGE_BYTES];
        private int size;

        void clear() {
            size = 0;
        }

        void putOne(String word, int value) {
            putText(word);
            putNumber(value);
            putText(";");
        }

        void putTwo(String word, int first, int second) {
            putText(word);
            putNumber(first);
            putNumber(second);
            putText(";");
        }

        void putText(String word) {
            for (int k = 0; k < word.length(); k++) {
                putByte(word.charAt(k));
            }
        }

        /** With the blank that always stands ahead of a number; it has five digits at most. */
        void putNumber(int value) {
            putByte(BLANK);
            for (int unit = 10000; unit > 0; unit /= 10) {
                if (value >= unit || unit == 1) {
                    putByte('0' + value / unit % 10);
                }
            }
        }

        private void putByte(int value) {
            if (size < PAGE_BYTES) {
                row[size] = (byte) value;
                size++;
            }
        }

        int answer(int i) {
            if (i == NONE) {
                return size;
            }
            return i >= 0 && i < size ? row[i] : MISSING;
        }
    }
}
