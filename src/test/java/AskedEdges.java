/** Boundary cases of promises 16 to 32: what is asked, sub-classes, notices. */
final class AskedEdges {
    private static final int NONE = Run.NONE;
    private static final int BIG = Run.BIG;
    private static final int LOW = Run.LOW;
    private static final String FOUR = Run.FOUR;

    private AskedEdges() { }

    /** MEMBERS that are all REACHED on day 1, with CONFLICTS, two digits each. */
    private static Run quarrels(int members, int... pairs) {
        Run t = Run.of(Run.members(members)).due(0, "send").due(1, "days", 1);
        for (int pair : pairs) {
            t.due(1, "quarrel", pair / 10, pair % 10);
        }
        return t;
    }

    // ---- asked

    @Says(promise = 16, value = "(-2: never, NOTICES are not SENT)")
    static void theDayThatIsNever() {
        Run.of(FOUR).due(-2, "member", 0, 8).due(-2, "member", 2, 8).due(10, "send").due(3, "member", 0, 8)
                .due(-2, "member", 2, 8).due(0, "undo").due(-2, "member", 0, 8);
        // It may come behind day 99.
        Run.of("channel 0 30;channel 0 30;channel 0 30;channel 0 30;member 0 0 1 by 3;").due(30, "days", 30)
                .due(60, "days", 30).due(79, "days", 19).due(0, "send").due(199, "member", 0, 8).due(0, "reachedBy", 198)
                .due(1, "reachedBy", 199);
    }

    @Says(promise = 16, value = "NONE for others")
    static void noSuchMemberOrWhat() {
        Run.of(FOUR).due(NONE, "member", 0, 10).due(NONE, "member", 0, NONE).due(NONE, "member", 0, BIG)
                .due(NONE, "member", 0, LOW).due(NONE, "member", 4, 0).due(NONE, "member", NONE, 0)
                .due(NONE, "member", BIG, 4).due(NONE, "member", LOW, 9).due(20, "member", 3, 2).due(2, "member", 3, 9);
        Run.fresh().due(NONE, "member", 0, 0).due(NONE, "member", 0, 8);
        Run.of(Run.members(10)).due(1, "member", 9, 4).due(NONE, "member", 10, 4);
    }

    @Says(promise = 17, value = "NONE for others")
    static void noSuchChannelOrWhat() {
        Run.of(FOUR).due(NONE, "channel", 0, 3).due(NONE, "channel", 0, NONE).due(NONE, "channel", 0, BIG)
                .due(NONE, "channel", 0, LOW).due(NONE, "channel", 2, 0).due(NONE, "channel", NONE, 0)
                .due(NONE, "channel", BIG, 2).due(NONE, "channel", LOW, 2).due(2, "channel", 1, 2);
        Run.fresh().due(NONE, "channel", 0, 0);
        // One that reaches nobody, one that reaches all.
        Run.of("channel 9 30;channel 0 1;member 0 0 1 by 1;member 0 0 1 by 1;").due(0, "channel", 0, 2)
                .due(2, "channel", 1, 2).due(9, "channel", 0, 0).due(30, "channel", 0, 1);
    }

    @Says(promise = 18, value = "Of the k-th LINE of the latest right TEXT")
    static void linesOfTheLatestRightText() {
        Run.of(FOUR).dueTold(0, "fee 7;till 8;").due(1, "line", 0, 0).due(7, "line", 0, 1).due(3, "line", 1, 0)
                .due(NONE, "line", 2, 0).dueTold(-4 - 7, "fund 9;?").due(1, "line", 0, 0).due(2, "count", 15)
                .due(0, "fund", 6).due(7, "line", 0, 1).due(2, "count", 15).due(0, "text").due(NONE, "line", 0, 0);
    }

    @Says(promise = 18, value = "what 0 its sort (0 fund, 1 fee, 2 least, 3 till, 4 period, 5 channel, 6 member, 7 conflict)")
    static void eachSortOfALine() {
        int[] sorts = {0, 1, 2, 3, 4, 5, 5, 6, 6, 6, 6, 7, 7};
        Run t = Run.of(FOUR);
        for (int k = 0; k < sorts.length; k++) {
            t.due(sorts[k], "line", k, 0);
        }
    }

    @Says(promise = 18, value = "-2: it has not so many")
    static void aLineHasNotSoMany() {
        Run.of(FOUR).due(1000, "line", 0, 1).due(-2, "line", 0, 2).due(19, "line", 4, 2).due(-2, "line", 4, 3)
                .due(0, "line", 7, 4).due(-2, "line", 7, 5).due(10, "line", 9, 3).due(-2, "line", 9, 4)
                .due(0, "line", 10, 5).due(-2, "line", 10, 6).due(1, "line", 12, 2).due(-2, "line", 12, 3)
                .due(-2, "line", 12, BIG);
        // The most numbers that a LINE can have.
        Run.of("channel 0 1;".repeat(4) + "member 0 1 2 by 3 2 1 0;").due(0, "line", 4, 7).due(-2, "line", 4, 8);
    }

    @Says(promise = 18, value = "NONE: no such LINE")
    static void noSuchLine() {
        Run.of(FOUR).due(7, "line", 12, 0).due(NONE, "line", 13, 0).due(NONE, "line", NONE, 0).due(NONE, "line", BIG, 0)
                .due(NONE, "line", LOW, 0).due(NONE, "line", 13, 9);
        Run.fresh().due(NONE, "line", 0, 0);
    }

    @Says(promise = 18, value = "what below 0")
    static void whatOfALineBelow0() {
        Run.of(FOUR).due(0, "line", 0, 0).due(NONE, "line", 0, NONE).due(NONE, "line", 0, LOW).due(NONE, "line", 12, NONE);
    }

    @Says(promise = 19, value = "the greatest first, of like ones by numbers")
    static void likeClaimsAreRankedByNumbers() {
        Run.of("member 0 0 5;member 0 0 6;member 0 0 5;member 0 0 6;").due(1, "ranked", 0).due(3, "ranked", 1)
                .due(0, "ranked", 2).due(2, "ranked", 3).due(0, "period", 1, 1).due(0, "ranked", 0).due(1, "ranked", 1)
                .due(2, "ranked", 2).due(3, "ranked", 3);
    }

    @Says(promise = 19, value = "NONE: no such k")
    static void noSuchRank() {
        Run.of(FOUR).due(2, "ranked", 0).due(3, "ranked", 3).due(NONE, "ranked", 4).due(NONE, "ranked", NONE)
                .due(NONE, "ranked", BIG).due(NONE, "ranked", LOW);
        Run.fresh().due(NONE, "ranked", 0);
        // Who is OUT is ranked still.
        Run.going().due(1, "out", 0).due(0, "ranked", 1).due(3, "ranked", 3);
    }

    @Says(promise = 20, value = "On how many days of PERIOD both of two MEMBERS have a claim (FROM to TO)")
    static void daysTogetherAtTheirEnds() {
        Run.of("period 5 9;member 0 4 1;member 0 5 1;member 5 5 1;member 9 20 1;member 0 99 1;member 5 9 1;"
                + "member 6 9 1;")
                .due(0, "together", 0, 1).due(1, "together", 1, 2).due(0, "together", 2, 3).due(1, "together", 3, 6)
                .due(5, "together", 4, 5).due(4, "together", 6, 5).due(0, "together", 0, 4);
        Run.of("member 0 99 1;member 0 99 1;").due(100, "together", 0, 1).due(100, "together", 1, 0);
    }

    @Says(promise = 20, value = "NONE: no such ones")
    static void noSuchOnesTogether() {
        Run.of(FOUR).due(1, "together", 2, 3).due(NONE, "together", 3, 4).due(NONE, "together", 4, 3)
                .due(NONE, "together", NONE, 0).due(NONE, "together", 0, NONE).due(NONE, "together", BIG, 0)
                .due(NONE, "together", 0, LOW).due(NONE, "together", 4, 5);
        Run.fresh().due(NONE, "together", 0, 1);
    }

    @Says(promise = 20, value = "both are one")
    static void oneIsNotTogether() {
        Run.of(FOUR).due(NONE, "together", 0, 0).due(NONE, "together", 3, 3).due(NONE, "together", 4, 4);
    }

    @Says(promise = 21, value = "of several the first")
    static void theFirstBusiestDay() {
        Run.of("member 3 4 1;member 7 8 1;").due(1, "busiest", 0).due(3, "busiest", 1).due(4, "period", 0, 98)
                .due(1, "period", 4, 5).due(4, "busiest", 1).due(1, "period", 5, 7).due(7, "busiest", 1)
                .due(0, "period", 5, 6).due(0, "busiest", 0).due(5, "busiest", 1);
        // The last day of PERIOD counts; a busier one behind it does not.
        Run.of("period 0 50;member 50 99 1;member 51 99 1;").due(1, "busiest", 0).due(50, "busiest", 1);
        Run.of("member 99 99 1;").due(99, "busiest", 1);
        Run.of(Run.members(10)).due(10, "busiest", 0);
        // Without a claim on any day it is the first one.
        Run.fresh().due(0, "busiest", 0).due(0, "busiest", 1).due(0, "period", 9, 12).due(9, "busiest", 1);
    }

    @Says(promise = 21, value = "NONE: another what")
    static void anotherWhatOfTheBusiest() {
        Run.of(FOUR).due(NONE, "busiest", 2).due(NONE, "busiest", NONE).due(NONE, "busiest", BIG).due(NONE, "busiest", LOW);
    }

    // ---- sub-classes

    @Says(promise = 22, value = "How many SUB-CLASSES there are")
    static void fromNoneToTenSubClasses() {
        Run.fresh().due(0, "classes");
        Run t = Run.of(Run.members(10)).due(1, "classes");
        for (int a = 0; a < 10; a++) {
            for (int b = 0; b < a; b++) {
                t.due(1, "quarrel", a, b);
            }
        }
        t.due(10, "classes").due(9, "classOf", 9).due(512, "classBits", 9).due(NONE, "classBits", 10).due(1, "splits", 10)
                .due(0, "splits", 9).due(1023, "feud").due(1, "settles").due(9, "lead", 9).due(0, "quarrel", 8, 9)
                .due(9, "classes").due(8, "classOf", 9);
    }

    @Says(promise = 23, value = "-2: it is OUT")
    static void theSubClassOfOneThatIsOut() {
        quarrels(2, 1).due(0, "classOf", 0).due(1, "classOf", 1).due(1, "out", 0).due(-2, "classOf", 0)
                .due(0, "classOf", 1).due(2, "out", 1).due(-2, "classOf", 1);
    }

    @Says(promise = 23, value = "NONE: no such one")
    static void theSubClassOfNone() {
        Run.of(FOUR).due(0, "classOf", 3).due(NONE, "classOf", 4).due(NONE, "classOf", NONE).due(NONE, "classOf", BIG)
                .due(NONE, "classOf", LOW);
        Run.fresh().due(NONE, "classOf", 0);
    }

    @Says(promise = 24, value = "NONE: no such one")
    static void noSuchSubClass() {
        Run.of(FOUR).due(2, "classBits", 1).due(NONE, "classBits", 2).due(NONE, "classBits", NONE)
                .due(NONE, "classBits", BIG).due(NONE, "classBits", LOW);
        Run.fresh().due(NONE, "classBits", 0);
        Run.of(Run.members(10)).due(1023, "classBits", 0).due(NONE, "classBits", 1);
        quarrels(1).due(1, "out", 0).due(NONE, "classBits", 0);
    }

    @Says(promise = 25, value = {"MEMBERS that are not OUT part into just k sets (none empty)",
        "with no CONFLICT within one"})
    static void waysIntoJustSoMany() {
        Run.fresh().due(1, "splits", 0).due(0, "splits", 1).due(0, "splits", BIG);
        Run.of(Run.members(3)).due(0, "splits", 0).due(1, "splits", 1).due(3, "splits", 2).due(1, "splits", 3)
                .due(0, "splits", 4).due(0, "splits", 10).due(0, "splits", 11).due(0, "splits", BIG);
        Run.of(Run.members(10)).due(1, "splits", 1).due(42525, "splits", 5).due(45, "splits", 9).due(1, "splits", 10)
                .due(0, "splits", 11);
        quarrels(3, 1).due(0, "splits", 1).due(2, "splits", 2).due(1, "splits", 3).due(1, "out", 0).due(1, "splits", 1)
                .due(1, "splits", 2).due(0, "splits", 3).due(2, "out", 1).due(3, "out", 2).due(1, "splits", 0)
                .due(0, "splits", 1);
    }

    @Says(promise = 25, value = "NONE: k below 0")
    static void waysIntoLessThanNone() {
        Run.of(FOUR).due(0, "splits", 0).due(NONE, "splits", NONE).due(NONE, "splits", LOW);
        Run.fresh().due(NONE, "splits", NONE);
    }

    @Says(promise = 26, value = {"The most MEMBERS that are not OUT each two of which are in CONFLICT",
        "of several the least"})
    static void theLeastOfTheGreatestFeuds() {
        Run.fresh().due(0, "feud");
        // One alone has no two that are not.
        quarrels(3).due(1, "feud").due(1, "out", 0).due(2, "feud").due(2, "out", 1).due(4, "feud").due(3, "out", 2)
                .due(0, "feud");
        quarrels(4, 23, 1).due(3, "feud").due(1, "out", 1).due(12, "feud");
        quarrels(6, 1, 34, 35, 45).due(8 + 16 + 32, "feud");
        // {0, 3} is 9 and {1, 2} is 6.
        quarrels(4, 3, 12).due(6, "feud");
    }

    @Says(promise = 27, value = {"The first CONFLICT (10 times the lesser MEMBER and the other one; by these numbers)",
        "without which there would be fewer SUB-CLASSES"})
    static void theFirstThatSettles() {
        quarrels(2, 1).due(1, "settles");
        quarrels(3, 21, 20, 10).due(1, "settles");
        Run.of(Run.KITE).due(12, "settles");
        quarrels(10, 98).due(89, "settles");
        // 0 - 1 is the first one, but none by which there are fewer: 2, 3, 4 are in feud.
        quarrels(5, 1, 23, 24, 34).due(23, "settles");
    }

    @Says(promise = 27, value = "-2: there is none")
    static void noneSettles() {
        Run.fresh().due(-2, "settles");
        Run.of(Run.members(10)).due(-2, "settles");
        quarrels(4, 1, 23).due(-2, "settles");
        // Of one that is OUT none counts.
        quarrels(2, 1).due(1, "settles").due(1, "out", 1).due(-2, "settles");
    }

    @Says(promise = 28, value = "of several the first")
    static void theFirstOfLikeClaimsLeads() {
        Run.of("member 0 0 4;member 0 0 9;member 0 0 9;").due(1, "lead", 0).due(0, "period", 1, 1).due(0, "lead", 0);
        Run.filed("", 9, 9, 9).due(1, "quarrel", 0, 1).due(0, "lead", 0).due(1, "lead", 1).due(1, "out", 0).due(1, "lead", 0);
    }

    @Says(promise = 28, value = "NONE: no such one")
    static void noSuchSubClassToLead() {
        Run.of(FOUR).due(1, "lead", 1).due(NONE, "lead", 2).due(NONE, "lead", NONE).due(NONE, "lead", BIG)
                .due(NONE, "lead", LOW);
        Run.fresh().due(NONE, "lead", 0);
        quarrels(1).due(0, "lead", 0).due(1, "out", 0).due(NONE, "lead", 0);
    }

    // ---- notices

    @Says(promise = 29, value = "NONE: it is none")
    static void costsByAnOrderThatIsNone() {
        Run.of(FOUR).due(10, "costFor", 1).due(8, "costFor", 4);
        for (int order : new int[] {0, 2, 3, 5, 6, 8, 12, 15, 16, 17, 20, 256 + 1, NONE, BIG, LOW, LOW + 1}) {
            Run.of(FOUR).due(NONE, "costFor", order);
        }
        Run.fresh().due(0, "costFor", 0).due(NONE, "costFor", 1).due(NONE, "costFor", NONE);
        Run.of("channel 5 1;").due(0, "costFor", 0).due(NONE, "costFor", 1).due(NONE, "costFor", 4);
        Run.of("channel 5 1;".repeat(4)).due(0, "costFor", 228).due(NONE, "costFor", 229).due(NONE, "costFor", 255)
                .due(NONE, "costFor", 256).due(0, "costFor", 27).due(NONE, "costFor", 26);
    }

    @Says(promise = 30, value = "-2: never")
    static void neverReachedByAnOrder() {
        Run.of(FOUR).due(-2, "reachFor", 1, 2).due(-2, "reachFor", 4, 2).due(3, "reachFor", 1, 3);
        Run.of("member 0 0 1;").due(-2, "reachFor", 0, 0);
        Run.of("channel 0 30;".repeat(4) + "member 0 0 1 by 3;").due(120, "reachFor", 27, 0).due(30, "reachFor", 228, 0);
    }

    @Says(promise = 30, value = "NONE: no such one, it is none")
    static void noSuchOneOrNoOrder() {
        Run.of(FOUR).due(NONE, "reachFor", 1, 4).due(NONE, "reachFor", 1, NONE).due(NONE, "reachFor", 1, BIG)
                .due(NONE, "reachFor", 1, LOW).due(NONE, "reachFor", 0, 0).due(NONE, "reachFor", 5, 0)
                .due(NONE, "reachFor", 16, 0).due(NONE, "reachFor", NONE, 0).due(NONE, "reachFor", LOW + 1, 0)
                .due(NONE, "reachFor", 0, 4);
        Run.fresh().due(NONE, "reachFor", 0, 0);
        Run.of("member 0 0 1;").due(NONE, "reachFor", 1, 0);
    }

    @Says(promise = 31, value = "by which each MEMBER that some CHANNEL reaches is REACHED behind at most so many days "
            + "that with the least COSTS")
    static void justSoManyDays() {
        String text = "channel 1 9;channel 5 2;member 0 0 1 by 1;member 0 0 1 by 0 1;";
        Run.of(text).due(7, "cheapest", 11, 0).due(1, "cheapest", 11, 1).due(10, "cheapest", 10, 0)
                .due(4, "cheapest", 10, 1).due(10, "cheapest", 2, 0).due(-2, "cheapest", 1, 0).due(7, "cheapest", BIG, 0);
        // One that no CHANNEL reaches binds none, but costs.
        Run.of(text + "member 0 0 1;").due(7 + 6, "cheapest", 11, 0).due(10 + 6, "cheapest", 2, 0).due(4, "cheapest", 2, 1);
        Run.of("channel 3 3;member 0 0 1;").due(3, "cheapest", 0, 0).due(0, "cheapest", 0, 1);
        Run.of("channel 3 3;").due(0, "cheapest", 0, 0).due(0, "cheapest", 0, 1);
    }

    @Says(promise = 31, value = "of several the least number")
    static void theLeastOfLikeOrders() {
        Run.of("channel 3 3;channel 3 3;channel 3 3;member 0 0 1;").due(6, "cheapest", 0, 1);
        // 0 and 2 reach at the same COST, 1 first would be dearer: 0, 1, 2 is 6, 2, 0, 1 is 33.
        Run.of("channel 3 1;channel 9 1;channel 3 1;member 0 0 1 by 0 2;").due(6, "cheapest", 9, 1)
                .due(3, "cheapest", 9, 0);
        Run.of("channel 9 1;channel 3 1;channel 3 1;member 0 0 1 by 1 2;").due(18, "cheapest", 9, 1);
    }

    @Says(promise = 31, value = "-2: there is none")
    static void noOrderIsInTime() {
        Run.of(FOUR).due(8, "cheapest", 4, 0).due(-2, "cheapest", 3, 0).due(-2, "cheapest", 3, 1).due(-2, "cheapest", 0, 0)
                .due(-2, "cheapest", 0, 1);
    }

    @Says(promise = 31, value = "NONE: no CHANNELS")
    static void cheapestWithoutChannels() {
        Run.fresh().due(NONE, "cheapest", 0, 0).due(NONE, "cheapest", 5, 1);
        Run.of("member 0 0 1;").due(NONE, "cheapest", 5, 0);
    }

    @Says(promise = 31, value = "days below 0")
    static void cheapestInDaysBelow0() {
        Run.of(FOUR).due(NONE, "cheapest", NONE, 0).due(NONE, "cheapest", LOW, 1);
        Run.of("channel 3 3;").due(0, "cheapest", 0, 0).due(NONE, "cheapest", NONE, 0);
    }

    @Says(promise = 31, value = "another what")
    static void cheapestOfAnotherWhat() {
        Run.of(FOUR).due(NONE, "cheapest", 4, 2).due(NONE, "cheapest", 4, NONE).due(NONE, "cheapest", 4, BIG)
                .due(NONE, "cheapest", 4, LOW).due(NONE, "cheapest", 0, 2);
    }

    @Says(promise = 32, value = {"MEMBERS that are REACHED on a day (0 .. 199) or ahead of it", "NONE: out of bounds"})
    static void reachedOnADay() {
        Run.of(FOUR).due(10, "send").due(0, "reachedBy", 0).due(0, "reachedBy", 2).due(9, "reachedBy", 3)
                .due(11, "reachedBy", 4).due(11, "reachedBy", 199).due(NONE, "reachedBy", 200).due(NONE, "reachedBy", NONE)
                .due(NONE, "reachedBy", BIG).due(NONE, "reachedBy", LOW);
        Run.fresh().due(NONE, "reachedBy", 200).due(NONE, "reachedBy", NONE);
    }

    @Says(promise = 32, value = "0, if NOTICES are not SENT")
    static void noneIsReachedYet() {
        Run.of(FOUR).due(0, "reachedBy", 0).due(0, "reachedBy", 199);
        Run.fresh().due(0, "reachedBy", 0).due(0, "reachedBy", 199);
    }
}
