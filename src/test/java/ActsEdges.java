/** Boundary cases of promises 1 to 15: what is told, and acts. */
final class ActsEdges {
    private static final int NONE = Run.NONE;
    private static final int BIG = Run.BIG;
    private static final int LOW = Run.LOW;
    private static final String FOUR = Run.FOUR;

    private ActsEdges() { }

    /** FOUR with NOTICES SENT by the ORDER as told, on day 3: MEMBERS 0 and 3 are REACHED, 1 on the next day. */
    private static Run sent() {
        return Run.of(FOUR).due(10, "send").due(3, "days", 3);
    }

    private static Run four() {
        return Run.of(FOUR);
    }

    /** A tape with so many bytes, all of them blanks. */
    private static Run tape(int bytes) {
        return Run.fresh().put(" ".repeat(bytes));
    }

    @Says(promise = 1, value = "No MEMBERS, no CHANNELS, an empty FUND")
    static void aNewObjectIsEmpty() {
        Run.fresh().due(0, "count", 0).due(0, "count", 1).due(0, "count", 4).due(0, "count", 2).due(0, "count", 15)
                .due(0, "count", 14).due(NONE, "member", 0, 0).due(NONE, "channel", 0, 0).due(0, "fundOf", 0)
                .due(NONE, "undo").due(0, "classes").due(0, "text");
    }

    // ---- told

    @Says(promise = 2, value = {"Twenty bytes, the highest of a first", "come behind the tape"})
    static void bytesComeHighestFirst() {
        // "fee ", "07;l", "east", " 12;", and the FAULT is the 255 at byte 17.
        Run.fresh().due(20, "feed", 0x66656520, 0x30373b6c, 0x65617374, 0x2031323b, 0x20ff2020).due(-4 - 17, "text");
        Run.fresh().due(20, "feed", 0x66656520, 0x30373b6c, 0x65617374, 0x2031323b, 0x20202020)
                .due(40, "feed", 0x66756e64, 0x20353b20, 0x20202020, 0x20202020, 0x20202020).due(0, "text")
                .due(7, "line", 0, 1).due(12, "line", 1, 1).due(5, "count", 4);
        // Each int counts, the least and the greatest, too.
        Run.fresh().due(20, "feed", LOW, BIG, NONE, 0, 1).due(-4, "text");
    }

    @Says(promise = 2, value = "NONE, and nothing comes, if it would have more than 400")
    static void theTapeHas400AtMost() {
        tape(380).due(400, "feed", 0, 0, 0, 0, 0).due(400, "count", 14);
        for (int bytes = 381; bytes <= 400; bytes++) {
            tape(bytes).due(NONE, "feed", 0, 0, 0, 0, 0).due(bytes, "count", 14);
        }
        // What did not come is not read.
        tape(400).due(NONE, "feed", NONE, NONE, NONE, NONE, NONE).due(0, "text").due(0, "count", 14)
                .due(20, "feed", 0, 0, 0, 0, 0);
        Run.nothingHappens(() -> Run.going().put(" ".repeat(390)), NONE, "feed", 1, 2, 3, 4, 5);
    }

    @Says(promise = 3, value = "NONE, and nothing goes, if it has not so many")
    static void noMoreThanThereIsGoesBack() {
        Run.fresh().due(NONE, "back", 1).due(0, "back", 0);
        tape(20).due(NONE, "back", 21).due(NONE, "back", BIG).due(20, "count", 14).due(1, "back", 19).due(NONE, "back", 2)
                .due(0, "back", 1).due(NONE, "back", 1);
        tape(400).due(NONE, "back", 401).due(0, "back", 400);
        Run.nothingHappens(() -> Run.going().put("fund 3;"), NONE, "back", 8);
    }

    @Says(promise = 3, value = "or n is below 0")
    static void noneGoesBackBelow0() {
        tape(20).due(NONE, "back", NONE).due(NONE, "back", LOW).due(20, "count", 14).due(20, "back", 0);
        Run.nothingHappens(() -> Run.going().put("fund 3;"), NONE, "back", NONE);
    }

    @Says(promise = 4, value = "The tape (empty then, behind a FAULT, too) is the TEXT, all anew")
    static void theTapeIsEmptyBehindAText() {
        Run.fresh().dueTold(0, "fund 5;").due(0, "count", 14).due(5, "count", 4).dueTold(-4 - 4, "fee ?;")
                .due(0, "count", 14).due(5, "count", 4).due(0, "text").due(0, "count", 4).due(0, "count", 15);
        Run.going().due(1, "lazy", 0, true).due(0, "rule", 1).due(1, "out", 0).dueTold(1, "member 1 2 3;")
                .due(0, "count", 1).due(0, "count", 2).due(0, "count", 3).due(0, "count", 4).due(0, "count", 5)
                .due(0, "count", 6).due(-2, "count", 7).due(0, "count", 8).due(0, "count", 9).due(0, "count", 10)
                .due(0, "count", 11).due(6, "count", 12).due(0, "count", 13).due(1, "count", 15).due(0, "member", 0, 9)
                .dueText("fund 0;fee 0;least 0;till 99;period 0 99;member 1 2 3;", "spell");
    }

    @Says(promise = 4, value = {"-4 less its FAULT", "and all else stays"})
    static void behindAFaultAllElseStays() {
        Run.fresh().dueTold(-4, "?").dueTold(-5, " ?").dueTold(-4 - 400, "fund" + " ".repeat(396));
        Run.going().dueTold(-4 - 37, "fund 7;fee 5;member 0 0 1;conflict 0 0;").looksAs(Run.going());
        Run.of(FOUR).dueTold(-4 - 7, "fund 9;?").due(13, "count", 15).due(1000, "line", 0, 1).due(1000, "count", 4)
                .dueTold(-4 - 6, "fund 1").due(1000, "count", 4);
    }

    // ---- acts

    @Says(promise = 5, value = "So many days (1 .. 30) go by")
    static void oneToThirtyDays() {
        Run.fresh().due(1, "days", 1).due(31, "days", 30).due(2, "count", 13);
    }

    @Says(promise = 5, value = "NONE, and nothing happens: out of bounds")
    static void daysOutOfBounds() {
        for (int n : new int[] {0, 31, NONE, BIG, LOW}) {
            Run.nothingHappens(Run::going, NONE, "days", n);
        }
    }

    @Says(promise = 5, value = "TODAY would be above 99")
    static void daysBeyond99() {
        Run.fresh().due(30, "days", 30).due(60, "days", 30).due(70, "days", 10).due(NONE, "days", 30).due(99, "days", 29)
                .due(NONE, "days", 1).due(NONE, "days", 30).due(99, "count", 3);
        Run.nothingHappens(() -> Run.going().due(34, "days", 30).due(64, "days", 30).due(94, "days", 30), NONE, "days", 6);
    }

    @Says(promise = 6, value = "NONE, and nothing happens: it is none of all CHANNELS")
    static void anOrderThatIsNone() {
        // 0 and 5 tell a CHANNEL twice, 2 one that is not there, 17 a third digit.
        for (int order : new int[] {0, 5, 2, 8, 16, 17, 20, NONE, BIG, LOW, LOW + 4}) {
            Run.nothingHappens(ActsEdges::four, NONE, "order", order);
        }
        Run.of("channel 0 1;channel 0 1;channel 0 1;channel 0 1;").due(NONE, "order", 255).due(NONE, "order", 256)
                .due(NONE, "order", 256 + 27).due(27, "order", 228);
        Run.fresh().due(NONE, "order", 1).due(NONE, "order", NONE);
    }

    @Says(promise = 6, value = "it is so")
    static void theOrderThatIs() {
        Run.nothingHappens(ActsEdges::four, NONE, "order", 1);
        Run.of(FOUR).due(1, "order", 4).due(NONE, "order", 4).due(4, "order", 1);
        Run.fresh().due(NONE, "order", 0);
        Run.of("channel 0 1;").due(NONE, "order", 0).due(0, "count", 13);
    }

    @Says(promise = 6, value = "NOTICES are SENT")
    static void noOrderBehindNotices() {
        Run.nothingHappens(ActsEdges::sent, NONE, "order", 4);
        Run.of(FOUR).due(10, "send").due(0, "undo").due(1, "order", 4);
    }

    @Says(promise = 7, value = "NONE, and nothing happens: they are")
    static void noticesAreNotSentAgain() {
        Run.nothingHappens(ActsEdges::sent, NONE, "send");
        // Once taken back they can be; a CHANNEL that costs nothing is SENT, too.
        Run.of(FOUR).due(10, "send").due(0, "undo").due(10, "send").due(NONE, "send");
        Run.of(Run.members(1)).due(0, "send").due(NONE, "send");
    }

    @Says(promise = 7, value = "there are no CHANNELS")
    static void nothingIsSentWithoutChannels() {
        Run.nothingHappens(() -> Run.of("fund 5;member 0 0 1;"), NONE, "send");
        Run.fresh().due(NONE, "send").due(-2, "count", 7);
        // Without MEMBERS there are NOTICES still.
        Run.of("channel 9 1;").due(0, "send").due(0, "count", 7);
    }

    @Says(promise = 8, value = "NONE, and nothing happens: no such one")
    static void noSuchOneOptsOut() {
        for (int i : new int[] {4, NONE, BIG, LOW, 32, 35}) {
            Run.nothingHappens(Run::going, NONE, "out", i);
        }
        Run.fresh().due(NONE, "out", 0);
    }

    @Says(promise = 8, value = "it is OUT")
    static void whoIsOutDoesNotOptOut() {
        Run.nothingHappens(() -> Run.going().due(1, "out", 0), NONE, "out", 0);
        Run.going().due(1, "out", 0).due(2, "out", 1).due(3, "out", 3).due(11, "count", 9);
    }

    @Says(promise = 8, value = "not REACHED yet")
    static void whoIsNotReachedDoesNotOptOut() {
        Run.nothingHappens(ActsEdges::four, NONE, "out", 0);
        Run.nothingHappens(ActsEdges::sent, NONE, "out", 1);
        Run.nothingHappens(ActsEdges::sent, NONE, "out", 2);
        sent().due(NONE, "out", 1).due(4, "days", 1).due(1, "out", 1);
    }

    @Says(promise = 8, value = "TODAY is above TILL")
    static void noneOptsOutBehindTill() {
        sent().due(9, "days", 6).due(1, "out", 0);
        Run.nothingHappens(() -> sent().due(10, "days", 7), NONE, "out", 0);
        // TILL day 99 is never over; by TILL day 0 none can be REACHED in time.
        Run.of(Run.members(1)).due(0, "send").due(30, "days", 30).due(60, "days", 30).due(90, "days", 30)
                .due(99, "days", 9).due(1, "out", 0);
        Run.of("till 0;" + Run.members(1)).due(0, "send").due(1, "days", 1).due(NONE, "out", 0);
        Run.of("till 1;" + Run.members(1)).due(0, "send").due(1, "days", 1).due(1, "out", 0);
    }

    @Says(promise = 9, value = "NONE, and nothing happens: no such one")
    static void noSuchOneFiles() {
        for (int i : new int[] {4, NONE, BIG, LOW, 32}) {
            Run.nothingHappens(Run::going, NONE, "file", i);
        }
        Run.fresh().due(NONE, "file", 0);
    }

    @Says(promise = 9, value = "it is OUT")
    static void whoIsOutDoesNotFile() {
        Run.nothingHappens(() -> sent().due(1, "out", 0), NONE, "file", 0);
        // Who filed may opt out, and stays FILED.
        sent().due(1, "file", 0).due(1, "out", 0).due(1, "count", 10).due(1, "member", 0, 6);
    }

    @Says(promise = 9, value = "it has")
    static void whoFiledDoesNotFile() {
        Run.nothingHappens(Run::going, NONE, "file", 0);
    }

    @Says(promise = 9, value = "not REACHED yet")
    static void whoIsNotReachedDoesNotFile() {
        Run.nothingHappens(ActsEdges::four, NONE, "file", 0);
        Run.nothingHappens(ActsEdges::sent, NONE, "file", 1);
        Run.nothingHappens(ActsEdges::sent, NONE, "file", 2);
        sent().due(NONE, "file", 1).due(4, "days", 1).due(1, "file", 1);
        // TILL binds who opts out alone.
        sent().due(33, "days", 30).due(1, "file", 0);
    }

    @Says(promise = 10, value = "A MEMBER is LAZY, or is not: true")
    static void lazyAndNotLazyAgain() {
        Run.of(FOUR).due(1, "lazy", 3, true).due(8, "count", 11).due(1, "lazy", 3, false).due(0, "count", 11)
                .due(2, "count", 13).due(1, "undo").due(8, "count", 11);
    }

    @Says(promise = 10, value = "false, and nothing happens: no such one")
    static void noSuchOneIsLazy() {
        for (int i : new int[] {4, NONE, BIG, LOW, 32}) {
            Run.nothingHappens(Run::going, 0, "lazy", i, true);
            Run.nothingHappens(Run::going, 0, "lazy", i, false);
        }
        Run.fresh().due(0, "lazy", 0, true).due(0, "lazy", 0, false);
    }

    @Says(promise = 10, value = "it is so")
    static void whoIsLazyAlready() {
        Run.nothingHappens(Run::going, 0, "lazy", 0, false);
        Run.nothingHappens(() -> Run.going().due(1, "lazy", 0, true), 0, "lazy", 0, true);
        // Who is OUT or never REACHED may be LAZY.
        Run.going().due(1, "out", 0).due(1, "lazy", 0, true).due(1, "lazy", 2, true).due(5, "count", 11)
                .due(1, "lazy", 0, false).due(4, "count", 11);
    }

    @Says(promise = 11, value = "NONE, and nothing happens: out of bounds")
    static void fundOutOfBounds() {
        for (int v : new int[] {NONE, 100000, BIG, LOW}) {
            Run.nothingHappens(Run::going, NONE, "fund", v);
        }
        Run.going().due(1000, "fund", 99999).due(99999, "fund", 0).due(0, "fund", 1);
    }

    @Says(promise = 11, value = "it is so")
    static void theFundThatIs() {
        Run.nothingHappens(Run::going, NONE, "fund", 1000);
        Run.fresh().due(NONE, "fund", 0).due(0, "fund", 99999).due(NONE, "fund", 99999).due(1, "count", 13);
    }

    @Says(promise = 12, value = "NONE, and nothing happens: no such one")
    static void noSuchRule() {
        for (int r : new int[] {NONE, 3, BIG, LOW}) {
            Run.nothingHappens(Run::going, NONE, "rule", r);
        }
    }

    @Says(promise = 12, value = "it is so")
    static void theRuleThatIs() {
        Run.nothingHappens(Run::going, NONE, "rule", 0);
        Run.nothingHappens(() -> Run.going().due(0, "rule", 2), NONE, "rule", 2);
        Run.fresh().due(0, "rule", 1).due(1, "rule", 2).due(2, "rule", 0);
    }

    @Says(promise = 13, value = "NONE, and nothing happens: out of bounds")
    static void periodOutOfBounds() {
        int[][] periods = {{NONE, 19}, {10, 100}, {20, 19}, {99, 98}, {100, 100}, {NONE, NONE}, {LOW, BIG}, {BIG, LOW}};
        for (int[] days : periods) {
            Run.nothingHappens(Run::going, NONE, "period", days[0], days[1]);
        }
        Run.going().due(1340, "period", 0, 99).due(10, "period", 0, 0).due(10, "period", 99, 99);
    }

    @Says(promise = 13, value = "it is so")
    static void thePeriodThatIs() {
        Run.nothingHappens(Run::going, NONE, "period", 10, 19);
        Run.going().due(210 + 10, "period", 9, 19).due(210 + 5 + 10 + 20, "period", 10, 20);
        Run.fresh().due(NONE, "period", 0, 99).due(0, "period", 0, 98);
    }

    @Says(promise = 14, value = "it goes, if there is one: 1 it came, 0 it went")
    static void aConflictComesAndGoes() {
        Run.of(FOUR).due(0, "quarrel", 0, 1).due(0, "member", 0, 9).due(8, "member", 1, 9).due(1, "quarrel", 1, 0)
                .due(2, "member", 0, 9).due(9, "member", 1, 9).due(0, "quarrel", 1, 0).due(1, "count", 2)
                .due(1, "quarrel", 2, 3).due(0, "quarrel", 3, 2);
        // Also of those that are OUT; it is an ACT, whether it comes or goes.
        Run.going().due(1, "out", 0).due(0, "quarrel", 0, 1).due(8, "count", 13).due(7, "undo").due(2, "count", 2);
    }

    @Says(promise = 14, value = "NONE: no such ones")
    static void noSuchOnesQuarrel() {
        int[][] pairs = {{0, 4}, {4, 0}, {NONE, 0}, {0, NONE}, {4, 5}, {0, BIG}, {LOW, 0}, {0, 33}, {32, 1}};
        for (int[] pair : pairs) {
            Run.nothingHappens(Run::going, NONE, "quarrel", pair[0], pair[1]);
        }
        Run.fresh().due(NONE, "quarrel", 0, 1);
    }

    @Says(promise = 14, value = "both are one")
    static void noneQuarrelsWithItself() {
        Run.nothingHappens(Run::going, NONE, "quarrel", 0, 0);
        Run.nothingHappens(Run::going, NONE, "quarrel", 3, 3);
        Run.fresh().due(NONE, "quarrel", 0, 0);
    }

    @Says(promise = 15, value = "The latest ACT is taken back: how many more can be")
    static void theLatestActIsTakenBack() {
        Run.going().due(5, "undo").due(3, "count", 10).due(4, "undo").due(1, "count", 10).due(3, "undo").due(2, "undo")
                .due(0, "count", 3).due(1, "undo").due(-2, "count", 7).due(0, "undo").due(1, "count", 8);
        // What is undone is no ACT, and can't be done again by undo.
        Run.fresh().due(0, "fund", 1).due(1, "fund", 2).due(1, "undo").due(1, "count", 4).due(0, "undo").due(0, "count", 4)
                .due(NONE, "undo");
        // Behind twelve and some undone the next ones come in their place.
        Run t = Run.fresh();
        for (int k = 1; k <= 20; k++) {
            t.due(k - 1, "fund", k);
        }
        t.due(11, "undo").due(10, "undo").due(18, "fund", 50).due(50, "fund", 51).due(51, "fund", 52).due(12, "count", 13)
                .due(11, "undo").due(51, "count", 4).due(10, "undo").due(9, "undo").due(18, "count", 4).due(8, "undo")
                .due(17, "count", 4);
    }

    @Says(promise = 15, value = "NONE: none can")
    static void noneCanBeTakenBack() {
        Run.nothingHappens(Run::fresh, NONE, "undo");
        Run.nothingHappens(() -> Run.fresh().due(0, "fund", 5).due(0, "undo"), NONE, "undo");
        Run.nothingHappens(ActsEdges::four, NONE, "undo");
    }
}
