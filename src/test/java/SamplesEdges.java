/** Boundary cases of promises 47 to 53: samples, texts and counts. */
final class SamplesEdges {
    private static final int NONE = Run.NONE;
    private static final int BIG = Run.BIG;
    private static final int LOW = Run.LOW;
    private static final String FOUR = Run.FOUR;

    private SamplesEdges() { }

    // ---- samples

    @Says(promise = 47, value = {"x is the seed at first; for each one x becomes x times 1103515245 and 12345 more "
            + "(of 32 bits)", "of those not drawn yet, by numbers, that x, shifted right by 16 without its sign"})
    static void seedsThatWrapAround() {
        // 12345 is 0 shifted; 1103527590 is 16838; 2207042835 is 33676, which is below 0 of 32 bits.
        Run.of(Run.members(10)).due(1, "sample", 0, 1).due(256, "sample", 1, 1).due(64, "sample", 2, 1);
        // -1 times it is 3191464396 of 32 bits, 48697 shifted; the least int leaves 12345 and 2147483648, 32768 shifted.
        Run.of(Run.members(10)).due(128, "sample", NONE, 1).due(256, "sample", LOW, 1);
        // By seed 0 behind 0 comes 54236, 2 of the nine left: MEMBER 3.
        Run.of(Run.members(10)).due(9, "sample", 0, 2);
    }

    @Says(promise = 47, value = "NONE: n below 0, more than there are")
    static void samplesOfNoneAndOfAll() {
        Run.of(FOUR).due(0, "sample", 1, 0).due(15, "sample", 1, 4).due(15, "sample", BIG, 4).due(NONE, "sample", 1, 5)
                .due(NONE, "sample", 1, NONE).due(NONE, "sample", 1, BIG).due(NONE, "sample", 1, LOW);
        Run.fresh().due(0, "sample", 1, 0).due(NONE, "sample", 1, 1).due(NONE, "sample", 1, NONE);
        Run.of(Run.members(1)).due(1, "sample", LOW, 1).due(NONE, "sample", LOW, 2);
        Run.of(Run.members(10)).due(1023, "sample", 77, 10).due(NONE, "sample", 77, 11);
        // Who is OUT may be drawn.
        Run.going().due(1, "out", 0).due(15, "sample", 1, 4);
    }

    @Says(promise = 48, value = "how many MEMBERS there are times the CLAIMS of the set by how many are in it, cut")
    static void theEstimateIsCut() {
        Run.of("member 0 0 1;member 0 0 1;member 0 0 3;").due(3, "estimate", 3).due(6, "estimate", 5).due(5, "estimate", 7)
                .due(9, "estimate", 4);
        // 4 times 110 by 3, then 5 times 3 by 2.
        Run.of(FOUR).due(146, "estimate", 11);
        Run.of("member 0 0 1;member 0 0 2;member 0 0 9;member 0 0 9;member 0 0 9;").due(7, "estimate", 3);
        Run.of("member 0 99 99;".repeat(10)).due(99000, "estimate", 1023).due(99000, "estimate", 512);
    }

    @Says(promise = 48, value = "NONE: out of bounds, it is empty")
    static void theEstimateOfNone() {
        Run.of(FOUR).due(NONE, "estimate", 0).due(NONE, "estimate", 16).due(NONE, "estimate", NONE)
                .due(NONE, "estimate", BIG).due(NONE, "estimate", LOW).due(80, "estimate", 8);
        Run.fresh().due(NONE, "estimate", 0).due(NONE, "estimate", 1);
    }

    @Says(promise = 49, value = {"Of all sets of n MEMBERS that whose ESTIMATE is nearest to all CLAIMS together",
        "of several the least"})
    static void theLeastOfTheNearestSets() {
        // 180 and 240 are both 30 off 210.
        Run.of(FOUR).due(30, "nearest", 2, 0).due(3, "nearest", 2, 1).due(0, "nearest", 4, 0).due(15, "nearest", 4, 1);
        Run.of("member 0 0 5;member 0 0 5;member 0 0 5;").due(0, "nearest", 1, 0).due(1, "nearest", 1, 1)
                .due(3, "nearest", 2, 1).due(7, "nearest", 3, 1);
        // Above and below by as much: 1 and 3 of 4.
        Run.of("member 0 0 3;member 0 0 1;").due(2, "nearest", 1, 0).due(1, "nearest", 1, 1);
        Run.of(Run.members(10)).due(0, "nearest", 10, 0).due(1023, "nearest", 10, 1);
    }

    @Says(promise = 49, value = "NONE: n below 1, more than there are, another what")
    static void noSetIsNearest() {
        Run.of(FOUR).due(NONE, "nearest", 0, 0).due(NONE, "nearest", NONE, 1).due(NONE, "nearest", LOW, 0)
                .due(NONE, "nearest", 5, 0).due(NONE, "nearest", BIG, 1).due(NONE, "nearest", 1, 2)
                .due(NONE, "nearest", 1, NONE).due(NONE, "nearest", 1, BIG).due(NONE, "nearest", 1, LOW)
                .due(10, "nearest", 1, 0).due(1, "nearest", 1, 1);
        Run.fresh().due(NONE, "nearest", 0, 0).due(NONE, "nearest", 1, 0);
        Run.of(Run.members(10)).due(NONE, "nearest", 11, 0);
    }

    @Says(promise = 50, value = "that is off by no more than so many hundredths (0 .. 100) of all CLAIMS together")
    static void offByJustSoMany() {
        // Off by 2 of 4, just 50 hundredths.
        Run.of("member 0 0 1;member 0 0 3;").due(0, "within", 1, 0).due(0, "within", 1, 49).due(2, "within", 1, 50)
                .due(2, "within", 1, 100).due(1, "within", 2, 0);
        // Off by 1 of 3: 33 hundredths are less.
        Run.of("member 0 0 1;member 0 0 2;").due(0, "within", 1, 33).due(2, "within", 1, 34);
        // Of CLAIMS of 0 none is off.
        Run.of("member 0 0 1;member 0 0 3;").due(0, "period", 1, 1).due(2, "within", 1, 0);
        Run.of(Run.members(10)).due(252, "within", 5, 0).due(1, "within", 10, 0);
    }

    @Says(promise = 50, value = "NONE: n below 1, more than there are, out of bounds")
    static void withinOutOfBounds() {
        Run.of(FOUR).due(NONE, "within", 0, 5).due(NONE, "within", NONE, 5).due(NONE, "within", LOW, 5)
                .due(NONE, "within", 5, 5).due(NONE, "within", BIG, 5).due(NONE, "within", 1, NONE)
                .due(NONE, "within", 1, 101).due(NONE, "within", 1, BIG).due(NONE, "within", 1, LOW)
                .due(4, "within", 1, 100).due(1, "within", 4, 0);
        Run.fresh().due(NONE, "within", 0, 0).due(NONE, "within", 1, 0);
    }

    // ---- texts

    @Says(promise = 51, value = "CHANNELS, MEMBERS (by, if some reach it, by numbers), CONFLICTS (the lesser MEMBER first, "
            + "by these), in this order")
    static void theOrderOfWhatIsSpelled() {
        Run.of("member 1 2 3;channel 4 5;member 6 7 8;conflict 1 0;channel 9 10;member 11 12 13 by 1 0;conflict 2 0;"
                + "member 0 0 1 by 1;conflict 3 2;conflict 2 1;fund 00014;").dueText(
                "fund 14;fee 0;least 0;till 99;period 0 99;channel 4 5;channel 9 10;member 1 2 3;member 6 7 8;"
                + "member 11 12 13 by 0 1;member 0 0 1 by 1;conflict 0 1;conflict 0 2;conflict 1 2;conflict 2 3;", "spell");
    }

    @Says(promise = 51, value = "one blank between WORDS and N, none else, no line ends")
    static void noMoreBlanksThanNeeded() {
        Run.of(" \nchannel\n0  1 \n;\n member 0\n\n0 1  by \n 0\n; \n").dueText(
                "fund 0;fee 0;least 0;till 99;period 0 99;channel 0 1;member 0 0 1 by 0;", "spell");
        // What is spelled is a TEXT that is spelled the same way.
        String text = "fund 99999;fee 50;least 999;till 0;period 99 99;channel 99 30;member 99 99 99 by 0;member 0 0 1;"
                + "conflict 0 1;";
        Run.of(text).dueText(text, "spell");
    }

    @Says(promise = 51, value = "All as a TEXT as it is: fund N; fee N; least N; till N; period N N")
    static void whatActsChangedIsSpelled() {
        Run.going().due(1000, "fund", 0).due(10, "period", 99, 99).due(0, "quarrel", 0, 1).dueText(
                "fund 0;fee 10;least 5;till 9;period 99 99;channel 2 3;channel 1 1;member 10 14 10 by 0;"
                + "member 12 21 5 by 1;member 0 99 10;member 19 30 20 by 0 1;conflict 1 3;", "spell");
        // Who is OUT is spelled, too.
        Run.of(Run.members(1)).due(0, "send").due(1, "days", 1).due(1, "out", 0).dueText(
                "fund 0;fee 0;least 0;till 99;period 0 99;channel 0 1;member 0 0 1 by 0;", "spell");
    }

    @Says(promise = 51, value = "fund N;")
    static void numbersWithoutZerosAhead() {
        for (int fund : new int[] {0, 9, 10, 11, 99, 100, 999, 1000, 1001, 9999, 10000, 10001, 19999, 20000, 99999}) {
            Run.of("fund " + fund + ";").dueText("fund " + fund + ";fee 0;least 0;till 99;period 0 99;", "spell")
                    .dueText("next " + fund + ";", "report");
        }
    }

    @Says(promise = 51, value = {"i NONE how many bytes, 0 on: the i-th", "-2: there are not so many"})
    static void bytesOfWhatIsSpelled() {
        Run.fresh().due(41, "spell", NONE).due('f', "spell", 0).due(';', "spell", 40).due(-2, "spell", 41)
                .due(-2, "spell", BIG);
        // The longest one: more bytes than a tape has.
        Run t = Run.of("fund 99999;fee 50;least 999;till 99;period 99 99;" + "channel 99 30;".repeat(4)
                + "member 99 99 99 by 0;".repeat(10));
        for (int a = 0; a < 10; a++) {
            for (int b = 0; b < a; b++) {
                t.due(1, "quarrel", a, b);
            }
        }
        t.due(49 + 56 + 210 + 585, "spell", NONE).due(';', "spell", 899).due('9', "spell", 898).due('8', "spell", 896)
                .due('c', "spell", 887).due(-2, "spell", 900);
    }

    @Says(promise = 51, value = "NONE: i below NONE")
    static void spellBelowNone() {
        Run.of(FOUR).due(NONE, "spell", -2).due(NONE, "spell", LOW);
        Run.fresh().due(NONE, "spell", -2);
    }

    @Says(promise = 52, value = {"for each COUNTED MEMBER paid N N; (its number, PAID), then next N; (what NEXT BEST has)",
        "one blank between WORDS and N, none else"})
    static void whoIsReported() {
        Run.fresh().dueText("next 0;", "report");
        Run.filed("fund 10;", 3, 3, 3).due(1, "lazy", 1, true).due(1, "out", 2)
                .dueText("paid 0 3;paid 1 0;next 7;", "report");
        Run.filed("fund 99999;", 99).dueText("paid 0 99;next 99900;", "report");
        Run.filed("fund 10;", 3).due(0, "period", 1, 1).dueText("next 10;", "report");
        Run.scarce().dueText("paid 0 37;paid 1 29;paid 3 14;next 2;", "report");
    }

    @Says(promise = 52, value = {"i NONE how many bytes, 0 on: the i-th", "-2: there are not so many"})
    static void bytesOfTheReport() {
        Run.fresh().due(7, "report", NONE).due('n', "report", 0).due(';', "report", 6).due(-2, "report", 7)
                .due(-2, "report", BIG);
        Run.manyRounds().due(90 + 7, "report", NONE).due('9', "report", 7).due(';', "report", 96).due(-2, "report", 97);
    }

    @Says(promise = 52, value = "NONE: i below NONE")
    static void reportBelowNone() {
        Run.scarce().due(NONE, "report", -2).due(NONE, "report", LOW);
        Run.fresh().due(NONE, "report", -2);
    }

    @Says(promise = 53, value = "7 on which day NOTICES were SENT (-2: they are not)")
    static void theDayOfNotices() {
        Run.fresh().due(-2, "count", 7);
        Run.of(FOUR).due(-2, "count", 7).due(30, "days", 30).due(10, "send").due(30, "count", 7).due(31, "days", 1)
                .due(30, "count", 7);
        Run.of(FOUR).due(10, "send").due(0, "count", 7).due(0, "undo").due(-2, "count", 7);
    }

    @Says(promise = 53, value = "NONE for others")
    static void countOfAnotherWhat() {
        Run.going().due(13, "count", 15).due(NONE, "count", 16).due(NONE, "count", NONE).due(NONE, "count", BIG)
                .due(NONE, "count", LOW).due(4, "count", 0);
    }
}
