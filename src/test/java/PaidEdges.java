/** Boundary cases of promises 33 to 46: what is paid, and what would be. */
final class PaidEdges {
    private static final int NONE = Run.NONE;
    private static final int BIG = Run.BIG;
    private static final int LOW = Run.LOW;
    private static final String FOUR = Run.FOUR;

    private PaidEdges() { }

    // ---- paid

    @Says(promise = 33, value = "5 how many have all their CLAIM of these")
    static void howManyHaveAll() {
        Run.filed("fund 9;", 3, 3, 3).due(3, "fundOf", 5).due(9, "fund", 8).due(0, "fundOf", 5).due(8, "fund", 99999)
                .due(3, "fundOf", 5).due(1, "lazy", 0, true).due(2, "fundOf", 5).due(3, "fundOf", 4).due(1, "out", 1)
                .due(1, "fundOf", 5).due(2, "fundOf", 4);
        // Who has no CLAIM is none of these.
        Run.filed("fund 9;", 3).due(0, "period", 1, 1).due(0, "fundOf", 5).due(0, "fundOf", 4).due(9, "fundOf", 3);
        Run.of(FOUR).due(0, "fundOf", 5);
    }

    @Says(promise = 33, value = "NONE for others")
    static void fundOfAnotherWhat() {
        Run.scarce().due(NONE, "fundOf", 6).due(NONE, "fundOf", NONE).due(NONE, "fundOf", BIG).due(NONE, "fundOf", LOW)
                .due(82, "fundOf", 0).due(0, "fundOf", 5);
        Run.fresh().due(0, "fundOf", 0).due(0, "fundOf", 1).due(0, "fundOf", 2).due(0, "fundOf", 3).due(0, "fundOf", 4)
                .due(0, "fundOf", 5).due(NONE, "fundOf", 6);
    }

    @Says(promise = 34, value = "NONE: no such one")
    static void noSuchPot() {
        Run.scarce().due(29, "pot", 1).due(NONE, "pot", 2).due(NONE, "pot", NONE).due(NONE, "pot", BIG)
                .due(NONE, "pot", LOW);
        Run.fresh().due(NONE, "pot", 0);
        Run.filed("fund 9;", 3).due(9, "pot", 0).due(1, "out", 0).due(NONE, "pot", 0);
    }

    @Says(promise = 35, value = "NONE: no such one")
    static void noSuchOneIsPaid() {
        Run.scarce().due(14, "paid", 3).due(NONE, "paid", 4).due(NONE, "paid", NONE).due(NONE, "paid", BIG)
                .due(NONE, "paid", LOW);
        Run.fresh().due(NONE, "paid", 0);
        // Who is not COUNTED is PAID 0.
        Run.scarce().due(0, "paid", 2).due(1, "out", 0).due(0, "paid", 0);
    }

    @Says(promise = 36, value = "What a MEMBER had in a ROUND (1 .. 9; 0 in one that was not)")
    static void whatWasHadInARoundThatWasNot() {
        Run.scarce().due(37, "had", 0, 1).due(0, "had", 0, 2).due(0, "had", 0, 9).due(0, "had", 2, 1);
        Run.of(FOUR).due(0, "had", 0, 1).due(0, "had", 0, 9);
        Run.manyRounds().due(1, "had", 0, 6).due(0, "had", 0, 7);
    }

    @Says(promise = 36, value = "NONE: no such ones")
    static void noSuchOneOrRound() {
        Run.scarce().due(NONE, "had", 0, 0).due(NONE, "had", 0, 10).due(NONE, "had", 0, NONE).due(NONE, "had", 0, BIG)
                .due(NONE, "had", 0, LOW).due(NONE, "had", 4, 1).due(NONE, "had", NONE, 1).due(NONE, "had", BIG, 1)
                .due(NONE, "had", LOW, 9);
        Run.fresh().due(NONE, "had", 0, 1);
    }

    @Says(promise = 37, value = "All that is PAID by hundredths of the CLAIMS of COUNTED ones, cut")
    static void theShareIsCut() {
        // 2 of 3, then all, then nothing.
        Run.filed("fund 2;", 3).due(66, "share").due(2, "fund", 3).due(100, "share").due(3, "fund", 99999)
                .due(100, "share").due(99999, "fund", 0).due(0, "share");
        // 98 and 98 of 199, as ROUND 1 cuts and what is LEFT is too little for three.
        Run.filed("fund 198;", 99, 99, 1).due(196, "fundOf", 1).due(98, "share");
        // The LAZY one's CLAIM counts.
        Run.filed("fund 6;", 3, 3).due(1, "lazy", 0, true).due(50, "share").due(1, "lazy", 1, true).due(0, "share");
    }

    @Says(promise = 37, value = "-2: none is COUNTED")
    static void theShareOfNone() {
        Run.fresh().due(-2, "share");
        Run.of(FOUR).due(-2, "share");
        Run.filed("fund 6;", 3).due(100, "share").due(0, "period", 1, 1).due(-2, "share").due(3, "undo").due(100, "share");
        Run.filed("fund 6;", 3).due(1, "out", 0).due(-2, "share");
    }

    @Says(promise = 38, value = "that are PAID so many hundredths (0 .. 100) of their CLAIM or more")
    static void votesOfJustSoManyHundredths() {
        Run.filed("fund 10;", 10, 10).due(1, "votes", 0).due(1, "votes", 50).due(0, "votes", 51).due(0, "votes", 100);
        // 2 of 3 are 66 hundredths and more, but not 67.
        Run.filed("fund 2;", 3).due(1, "votes", 66).due(0, "votes", 67);
        Run.filed("fund 3;", 3).due(1, "votes", 100).due(NONE, "votes", 101);
        Run.filed("", 3).due(1, "votes", 0).due(0, "votes", 1);
    }

    @Says(promise = 38, value = "have more than half of the CLAIMS of all COUNTED ones (1, 0)")
    static void halfIsNotMoreThanHalf() {
        // MEMBER 1 has all its CLAIM: 9 of 18, 10 of 19, 9 of 19.
        Run.filed("fund 9;", 9, 9).due(1, "lazy", 0, true).due(0, "votes", 100).due(0, "votes", 1).due(1, "votes", 0);
        Run.filed("fund 10;", 9, 10).due(1, "lazy", 0, true).due(10, "paid", 1).due(1, "votes", 100);
        Run.filed("fund 10;", 10, 9).due(1, "lazy", 0, true).due(9, "paid", 1).due(0, "votes", 100);
    }

    @Says(promise = 38, value = "-2: none is COUNTED")
    static void votesOfNone() {
        Run.fresh().due(-2, "votes", 0).due(-2, "votes", 100);
        Run.of(FOUR).due(-2, "votes", 50);
        Run.filed("fund 9;", 9).due(1, "out", 0).due(-2, "votes", 0);
    }

    @Says(promise = 38, value = "NONE: out of bounds")
    static void votesOutOfBounds() {
        Run.scarce().due(NONE, "votes", NONE).due(NONE, "votes", 101).due(NONE, "votes", BIG).due(NONE, "votes", LOW);
        Run.fresh().due(NONE, "votes", NONE).due(NONE, "votes", 101);
    }

    // ---- were

    @Says(promise = 39, value = "were another one (or it) OUT")
    static void wereItselfOut() {
        Run.scarce().due(0, "wereOut", 0, 0).due(0, "wereOut", 1, 1).due(50, "wereOut", 0, 1).due(37, "wereOut", 0, 2);
        // Who is OUT already stays so; it makes no difference.
        Run.scarce().due(1, "out", 1).due(50, "paid", 0).due(50, "wereOut", 0, 1).due(0, "wereOut", 1, 0)
                .due(0, "wereOut", 1, 1);
        // None has to be REACHED, and TILL is no bound.
        Run.scarce().due(34, "days", 30).due(50, "wereOut", 0, 1).due(NONE, "out", 1);
    }

    @Says(promise = 39, value = "NONE: no such ones")
    static void noSuchOnesOut() {
        Run.scarce().due(NONE, "wereOut", 4, 0).due(NONE, "wereOut", 0, 4).due(NONE, "wereOut", NONE, 0)
                .due(NONE, "wereOut", 0, NONE).due(NONE, "wereOut", BIG, 0).due(NONE, "wereOut", 0, LOW)
                .due(NONE, "wereOut", 0, 33).due(NONE, "wereOut", 4, 4);
        Run.fresh().due(NONE, "wereOut", 0, 0);
    }

    @Says(promise = 40, value = "NONE: no such one, out of bounds")
    static void wereFundOutOfBounds() {
        Run.going().due(50, "wereFund", 99999, 0).due(0, "wereFund", 0, 0).due(NONE, "wereFund", 100000, 0)
                .due(NONE, "wereFund", NONE, 0).due(NONE, "wereFund", BIG, 0).due(NONE, "wereFund", LOW, 0)
                .due(NONE, "wereFund", 100, 4).due(NONE, "wereFund", 100, NONE).due(NONE, "wereFund", 100, BIG)
                .due(NONE, "wereFund", 100, LOW).due(50, "wereFund", 1000, 0);
        Run.fresh().due(NONE, "wereFund", 0, 0);
    }

    @Says(promise = 41, value = "NONE: no such ones")
    static void noSuchRuleWere() {
        Run.scarce().due(29, "wereRule", 2, 0).due(NONE, "wereRule", 3, 0).due(NONE, "wereRule", NONE, 0)
                .due(NONE, "wereRule", BIG, 0).due(NONE, "wereRule", LOW, 0).due(NONE, "wereRule", 0, 4)
                .due(NONE, "wereRule", 0, NONE).due(NONE, "wereRule", 0, BIG).due(37, "wereRule", 0, 0);
        Run.fresh().due(NONE, "wereRule", 0, 0);
    }

    @Says(promise = 42, value = "of several the least")
    static void theLeastOfLikeRules() {
        // By each RULE all its CLAIM; then nothing by any.
        Run.going().due(0, "ruleFor", 0).due(0, "ruleFor", 2).due(0, "rule", 2).due(0, "ruleFor", 0);
        // By 1 and 2 the same 5, by 0 it is 1.
        Run.filed("fund 10;", 9, 81).due(1, "quarrel", 0, 1).due(1, "wereRule", 0, 0).due(5, "wereRule", 1, 0)
                .due(5, "wereRule", 2, 0).due(1, "ruleFor", 0).due(0, "ruleFor", 1);
        Run.scarce().due(1, "ruleFor", 0).due(2, "ruleFor", 1);
    }

    @Says(promise = 42, value = "NONE: no such one")
    static void noSuchOneForARule() {
        Run.scarce().due(1, "ruleFor", 3).due(NONE, "ruleFor", 4).due(NONE, "ruleFor", NONE).due(NONE, "ruleFor", BIG)
                .due(NONE, "ruleFor", LOW);
        Run.fresh().due(NONE, "ruleFor", 0);
    }

    @Says(promise = 43, value = {"The other MEMBER that is not OUT that", "of several the least"})
    static void theLeastOfLikeLeavers() {
        // 3 each; were another one OUT, 5 each.
        Run.filed("fund 10;", 10, 10, 10).due(1, "leaver", 0).due(0, "leaver", 1).due(0, "leaver", 2).due(1, "out", 1)
                .due(2, "leaver", 0).due(0, "leaver", 2);
        // The greater one leaves more.
        Run.filed("fund 10;", 10, 10, 20).due(2, "leaver", 0).due(2, "leaver", 1).due(0, "leaver", 2);
    }

    @Says(promise = 43, value = "-2: by none it is more than now")
    static void noLeaverMakesMore() {
        Run.filed("fund 30;", 10, 10, 10).due(-2, "leaver", 0);
        Run.filed("fund 10;", 10).due(-2, "leaver", 0);
        Run.filed("fund 10;", 10, 10).due(1, "leaver", 0).due(1, "lazy", 0, true).due(-2, "leaver", 0)
                .due(1, "lazy", 0, false).due(1, "out", 0).due(-2, "leaver", 0).due(-2, "leaver", 1);
        Run.of(FOUR).due(-2, "leaver", 0);
    }

    @Says(promise = 43, value = "NONE: no such one")
    static void noSuchOneHasALeaver() {
        Run.scarce().due(0, "leaver", 3).due(NONE, "leaver", 4).due(NONE, "leaver", NONE).due(NONE, "leaver", BIG)
                .due(NONE, "leaver", LOW);
        Run.fresh().due(NONE, "leaver", 0);
    }

    @Says(promise = 44, value = "were all others OUT (who is OUT now, stays so)")
    static void whoIsOutStaysOut() {
        Run.filed("fund 10;", 10, 10, 10).due(9, "alone", 7).due(10, "alone", 3).due(10, "alone", 1).due(0, "alone", 0)
                .due(1, "out", 0).due(0, "alone", 1).due(10, "alone", 3).due(10, "alone", 7).due(1, "lazy", 1, true)
                .due(0, "alone", 3).due(10, "alone", 7);
    }

    @Says(promise = 44, value = "NONE: out of bounds")
    static void aloneOutOfBounds() {
        Run.scarce().due(80, "alone", 15).due(NONE, "alone", 16).due(NONE, "alone", 17).due(NONE, "alone", NONE)
                .due(NONE, "alone", BIG).due(NONE, "alone", LOW);
        Run.fresh().due(0, "alone", 0).due(NONE, "alone", 1).due(NONE, "alone", NONE);
    }

    @Says(promise = 45, value = "The least FUND by which each COUNTED one that is not LAZY is PAID all its CLAIM")
    static void theLeastFundThatIsEnough() {
        Run.fresh().due(0, "needs");
        Run.of(FOUR).due(0, "needs");
        Run.filed("", 10).due(10, "needs").due(1, "lazy", 0, true).due(0, "needs");
        Run.filed("", 10, 20).due(30, "needs").due(1, "out", 1).due(10, "needs");
        // FEE is cut: 19 less 9.
        Run.filed("fee 50;", 10).due(19, "needs").due(0, "wereFund", 0, 0).due(9, "wereFund", 18, 0)
                .due(10, "wereFund", 19, 0);
        // COSTS of 8 and a FEE of 13 come off, too.
        Run.going().due(131, "needs").due(50, "wereFund", 131, 0).due(49, "wereFund", 130, 0);
    }

    @Says(promise = 45, value = "-2: there is none")
    static void noFundIsEnough() {
        Run.filed("least 10;", 9).due(-2, "needs").due(0, "wereFund", 99999, 0);
        Run.filed("least 9;", 9).due(9, "needs");
        Run.filed("least 10;", 10, 9).due(-2, "needs").due(1, "lazy", 1, true).due(19, "needs").due(0, "lazy", 1, true);
        // CLAIMS of 99000 and a FEE of just so much that 99999 are enough, or not.
        enough(1).due(99999, "needs");
        enough(2).due(-2, "needs");
    }

    private static Run enough(int fee) {
        Run t = Run.of("fee " + fee + ";channel 0 1;" + "member 0 99 99 by 0;".repeat(10)).due(0, "send").due(1, "days", 1);
        for (int i = 0; i < 10; i++) {
            t.due(i + 1, "file", i);
        }
        return t;
    }

    /** CLAIMS of 100 and a NET of 120: both in have 60 each, one alone has 100. */
    private static Run two() {
        return Run.of("fund 120;member 0 9 10;member 0 9 10;");
    }

    @Says(promise = 46, value = "were they OUT and all others in, FILED, none of them LAZY, REST")
    static void whoIsOutOrLazyNowMakesNoDifference() {
        two().due(2, "rests", 80, 0, NONE).due(1, "lazy", 0, true).due(1, "lazy", 1, true).due(2, "rests", 80, 0, NONE)
                .due(1, "rests", 80, 0, 0);
        Run.filed("fund 2;", 2).due(1, "rests", 50, 0, NONE).due(0, "rests", 50, 0, 0).due(1, "out", 0)
                .due(1, "rests", 50, 0, NONE).due(0, "rests", 50, 0, 0);
        Run.fresh().due(1, "rests", 0, 0, NONE).due(0, "rests", 100, 999, 0).due(-2, "rests", 0, 0, 1);
    }

    @Says(promise = 46, value = "none would have more by choosing otherwise alone")
    static void asMuchIsNotMore() {
        two().due(1, "rests", 59, 0, NONE).due(0, "rests", 59, 0, 0);
        two().due(3, "rests", 60, 0, NONE).due(0, "rests", 60, 0, 0).due(1, "rests", 60, 0, 1).due(2, "rests", 60, 0, 2);
        two().due(2, "rests", 61, 0, NONE).due(1, "rests", 61, 0, 0).due(2, "rests", 61, 0, 1);
        two().due(3, "rests", 100, 0, NONE).due(3, "rests", 100, 0, 2).due(2, "rests", 100, 1, NONE);
    }

    @Says(promise = 46, value = {"OUT: CLAIM times odds, 0 .. 100, by 100, cut", "less suit, 0 .. 999, 0 at least"})
    static void whatIsHadOut() {
        // One with a CLAIM of 99 that is PAID 0: by 1 of a hundred it would have 0, by 2 it would have 1.
        Run.of("member 0 0 99;").due(2, "rests", 0, 0, NONE).due(2, "rests", 1, 0, NONE).due(1, "rests", 2, 0, NONE)
                .due(1, "rests", 2, 0, 0).due(2, "rests", 2, 1, NONE).due(2, "rests", 2, 2, NONE)
                .due(1, "rests", 100, 98, NONE).due(2, "rests", 100, 99, NONE).due(2, "rests", 100, 999, NONE);
        // PAID 1: as much by 2 of a hundred, less by 1.
        Run.of("fund 1;member 0 0 99;").due(2, "rests", 2, 0, NONE).due(1, "rests", 1, 0, NONE).due(0, "rests", 1, 0, 0)
                .due(1, "rests", 4, 0, NONE).due(1, "rests", 4, 0, 0);
    }

    @Says(promise = 46, value = {"k NONE how many, else the k-th, by numbers", "-2: there are not so many"})
    static void theSetsThatRestByNumbers() {
        two().due(3, "rests", 60, 0, NONE).due(0, "rests", 60, 0, 0).due(2, "rests", 60, 0, 2).due(-2, "rests", 60, 0, 3)
                .due(-2, "rests", 60, 0, BIG);
        // With nothing to have each set rests.
        Run.of(Run.members(10)).due(1024, "rests", 0, 0, NONE).due(0, "rests", 0, 0, 0).due(1023, "rests", 0, 0, 1023)
                .due(-2, "rests", 0, 0, 1024).due(1, "rests", 100, 0, NONE).due(1023, "rests", 100, 0, 0)
                .due(-2, "rests", 100, 0, 1);
    }

    @Says(promise = 46, value = "NONE: out of bounds, k below NONE")
    static void restsOutOfBounds() {
        two().due(NONE, "rests", NONE, 0, 0).due(NONE, "rests", 101, 0, 0).due(NONE, "rests", BIG, 0, NONE)
                .due(NONE, "rests", LOW, 0, NONE).due(NONE, "rests", 0, NONE, 0).due(NONE, "rests", 0, 1000, 0)
                .due(NONE, "rests", 0, BIG, NONE).due(NONE, "rests", 0, LOW, NONE).due(NONE, "rests", 0, 0, -2)
                .due(NONE, "rests", 0, 0, LOW).due(0, "rests", 0, 999, 0).due(1, "rests", 100, 0, 0);
        Run.fresh().due(NONE, "rests", 0, 0, -2).due(NONE, "rests", 101, 0, NONE).due(NONE, "rests", 0, 1000, NONE);
    }
}
