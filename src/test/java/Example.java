/** The example of README.md, which has it word for word; ReadmeTest looks whether it prints what it says. */
public final class Example {
    /** Four bytes to a number, five numbers to a feed; the blanks behind the TEXT go again. */
    static int tell(ClassOfMany many, String text) {
        int blanks = (20 - text.length() % 20) % 20;
        String tape = text + " ".repeat(blanks);
        for (int at = 0; at < tape.length(); at += 20) {
            int[] n = new int[5];
            for (int k = 0; k < 20; k++) {
                n[k / 4] = n[k / 4] << 8 | tape.charAt(at + k);
            }
            many.feed(n[0], n[1], n[2], n[3], n[4]);
        }
        many.back(blanks);
        return many.text();
    }

    static String report(ClassOfMany many) {
        StringBuilder text = new StringBuilder();
        for (int i = 0; i < many.report(ClassOfMany.NONE); i++) {
            text.append((char) many.report(i));
        }
        return text.toString();
    }

    static void print(Object answer) {
        System.out.println(answer);
    }

    public static void main(String[] args) {
        ClassOfMany many = new ClassOfMany();
        print(tell(many, "fund 100; fee 200;"));  // -18: a FAULT at byte 14, as a FEE is 50 at most
        print(tell(many, "fund 100; fee 10; channel 2 3; channel 1 1;"
                + "member 0 9 5 by 0; member 5 9 10 by 1; member 0 4 20 by 0 1; conflict 0 1;"));  // 3 MEMBERS
        print(many.member(2, 4));      // 100: the CLAIM of MEMBER 2, five days at 20
        print(many.classes());         // 2 SUB-CLASSES
        print(many.classBits(0));      // 5: MEMBERS 0 and 2 (bits)
        print(many.cheapest(9, 0));    // 5: the least COSTS by which all are REACHED behind 9 days
        print(many.cheapest(9, 1));    // 4: the ORDER that does so, CHANNEL 1 ahead of CHANNEL 0
        print(many.order(4));          // 1: the ORDER that it was
        print(many.file(0));           // -1: NONE, nothing happens, as it is not REACHED yet
        print(many.send());            // 5: COSTS
        print(many.days(4));           // 4: TODAY
        print(many.file(0));           // 1 FILED
        print(many.file(1));           // 2 FILED
        print(many.fundOf(0));         // 85: NET, 100 less 5 less 10
        print(report(many));           // paid 0 42;paid 1 42;next 1;
        print(many.wereOut(0, 1));     // 50: PAID of MEMBER 0, were MEMBER 1 OUT
        print(many.needs());           // 116: the least FUND by which both are PAID all
        print(many.undo());            // 4 more ACTS can be taken back
        print(report(many));           // paid 0 50;next 35;
    }
}
