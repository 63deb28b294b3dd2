import java.lang.management.ManagementFactory;

/** No call makes an object: all rows are made with the object itself, which stays small. */
public final class RoomTest {
    private static final String TEXT = "fund 3000;least 9;channel 1 1;channel 2 2;" + "member 0 49 9 by 0;".repeat(10)
            + "conflict 0 1;conflict 1 2;conflict 2 0;conflict 8 9;";

    private static final com.sun.management.ThreadMXBean THREADS =
            (com.sun.management.ThreadMXBean) ManagementFactory.getThreadMXBean();

    private static void tell(ClassOfMany many, int[] words) {
        for (int k = 0; k < words.length; k += 5) {
            many.feed(words[k], words[k + 1], words[k + 2], words[k + 3], words[k + 4]);
        }
        many.text();
    }

    private static int askAll(ClassOfMany many, int[] words) {
        tell(many, words);
        int sum = many.order(4) + many.send() + many.days(5);
        for (int i = 0; i < 10; i++) {
            sum += many.file(i);
        }
        many.lazy(3, true);
        sum += many.out(7) + many.fund(700) + many.rule(1) + many.period(3, 80) + many.quarrel(4, 5) + many.undo();
        sum += many.member(0, 4) + many.channel(0, 2) + many.line(3, 1) + many.ranked(3) + many.together(0, 1);
        sum += many.busiest(1) + many.classes() + many.classOf(1) + many.classBits(1) + many.splits(5) + many.feud();
        sum += many.settles() + many.lead(0) + many.costFor(4) + many.reachFor(4, 2) + many.cheapest(9, 1);
        sum += many.reachedBy(9) + many.fundOf(1) + many.pot(1) + many.paid(2) + many.had(2, 1) + many.share();
        sum += many.votes(30) + many.wereOut(1, 2) + many.wereFund(500, 1) + many.wereRule(2, 1) + many.ruleFor(1);
        sum += many.leaver(1) + many.alone(77) + many.needs() + many.rests(50, 9, 0) + many.sample(4, 4);
        sum += many.estimate(77) + many.nearest(5, 1) + many.within(5, 10) + many.spell(-1) + many.report(-1);
        return sum + many.count(12) + many.back(1);
    }

    private static int[] wordsOf(String text) {
        StringBuilder b = new StringBuilder(text);
        while (b.length() % 20 != 0) {
            b.append(' ');
        }
        int[] words = new int[b.length() / 4];
        for (int k = 0; k < b.length(); k++) {
            words[k / 4] = words[k / 4] << 8 | b.charAt(k);
        }
        return words;
    }

    public static void main(String[] args) {
        int[] words = wordsOf(TEXT);
        long id = Thread.currentThread().getId();
        ClassOfMany warm = new ClassOfMany();
        askAll(warm, words);
        THREADS.getThreadAllocatedBytes(id);
        long start = THREADS.getThreadAllocatedBytes(id);
        ClassOfMany many = new ClassOfMany();
        long made = THREADS.getThreadAllocatedBytes(id);
        for (int k = 0; k < 8; k++) {
            askAll(many, words);
        }
        long end = THREADS.getThreadAllocatedBytes(id);
        boolean isSmall = made - start < 64000 && end - made < 1000;
        System.out.println((isSmall ? "room: " : "too much room: ") + (made - start) + " bytes for the object, "
                + (end - made) + " for its calls");
        if (!isSmall) {
            System.exit(1);
        }
    }
}
