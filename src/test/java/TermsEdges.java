/** Boundary cases that stand ahead of the promises: under 'What it is' and under 'Terms'. */
final class TermsEdges {
    private static final int NONE = Run.NONE;
    private static final int BIG = Run.BIG;
    private static final String FOUR = Run.FOUR;

    private TermsEdges() { }

    @Says("An object is used for at most 512 calls after it has been made")
    static void the512thCallIsAnsweredStill() {
        Run t = Run.of(FOUR);
        while (t.calls() < Run.MOST_CALLS - 1) {
            t.due(4, "count", 0);
        }
        t.due(13, "classBits", 0);
    }

    // ---- I: bounds

    @Says("MEMBERS 0, 1, .. (at most 10)")
    static void tenMembersButNotEleven() {
        Run.right("member 0 0 1;".repeat(10)).due(1, "member", 9, 2).due(NONE, "member", 10, 2);
        Run.fault("member 0 0 1;".repeat(10) + "^member 0 0 1;");
    }

    @Says("FROM, TO (days 0 .. 99, TO not below FROM)")
    static void daysOfAMember() {
        Run.bounds("member ", 0, 99, " 99 1;");
        Run.bounds("member 0 ", 0, 99, " 1;");
        Run.bounds("member 42 ", 42, 99, " 1;");
        Run.fault("member 5 ^4 1;");
        Run.right("member 5 5 1;").due(5, "member", 0, 0).due(5, "member", 0, 1).due(1, "member", 0, 4);
    }

    @Says("RATE (1 .. 99)")
    static void rateOfAMember() {
        Run.bounds("member 0 0 ", 1, 99, ";");
    }

    @Says("CHANNELS 0, 1, .. (at most 4)")
    static void fourChannelsButNotFive() {
        Run.right("channel 7 1;".repeat(4)).due(7, "channel", 3, 0).due(NONE, "channel", 4, 0);
        Run.fault("channel 7 1;".repeat(4) + "^channel 7 1;");
    }

    @Says("COST (0 .. 99)")
    static void costOfAChannel() {
        Run.bounds("channel ", 0, 99, " 1;");
    }

    @Says("WAIT (1 .. 30 days)")
    static void waitOfAChannel() {
        Run.bounds("channel 0 ", 1, 30, ";");
    }

    @Says("FUND (0 .. 99999)")
    static void boundsOfFund() {
        Run.bounds("fund ", 0, 99999, ";");
    }

    @Says("FEE (0 .. 50 of a hundred)")
    static void boundsOfFee() {
        Run.bounds("fee ", 0, 50, ";");
        Run.right("fund 10;fee 50;").due(5, "fundOf", 0);
        Run.right("fund 10;fee 0;").due(10, "fundOf", 0);
    }

    @Says("LEAST (0 .. 999)")
    static void boundsOfLeast() {
        Run.bounds("least ", 0, 999, ";");
    }

    @Says("TILL (a day 0 .. 99)")
    static void boundsOfTill() {
        Run.bounds("till ", 0, 99, ";");
    }

    @Says("PERIOD (two days 0 .. 99, the second not below the first)")
    static void boundsOfPeriod() {
        Run.bounds("period ", 0, 99, " 99;");
        Run.bounds("period 0 ", 0, 99, ";");
        Run.fault("period 7 ^6;");
        Run.right("period 7 7;").due(7, "busiest", 1);
    }

    @Says("RATE times the days of FROM to TO that are in PERIOD (both ends count)")
    static void daysAtBothEndsOfPeriod() {
        Run.of("period 5 9;member 0 4 7;member 0 5 7;member 9 20 7;member 10 20 7;member 5 9 7;member 6 8 7;"
                + "member 0 99 7;").due(0, "member", 0, 4).due(7, "member", 1, 4).due(7, "member", 2, 4)
                .due(0, "member", 3, 4).due(35, "member", 4, 4).due(21, "member", 5, 4).due(35, "member", 6, 4);
        Run.of("member 0 99 99;").due(9900, "member", 0, 4);
    }

    @Says("CONFLICTS: two MEMBERS each")
    static void aConflictIsOfTwo() {
        Run.fault("member 0 0 1;conflict 0^;");
        Run.fault("member 0 0 1;member 0 0 1;member 0 0 1;conflict 0 1 ^2;");
    }

    // ---- I: the form of a TEXT

    @Says("{ fund N ; | fee N ; | least N ; | till N ; | period N N ; | channel N N ; | member N N N")
    static void eachSortHasItsNumbers() {
        for (String word : new String[] {"fund", "fee", "least", "till"}) {
            Run.right(word + " 1;");
            Run.fault(word + " ^;");
            Run.fault(word + " 1 ^1;");
        }
        for (String word : new String[] {"period", "channel"}) {
            Run.right(word + " 1 1;");
            Run.fault(word + " 1^;");
            Run.fault(word + " 1 1 ^1;");
        }
        Run.right("member 1 1 1;");
        Run.fault("member 1 1^;");
        Run.fault("member 1 1 1 ^1;");
    }

    @Says("A TEXT: {")
    static void noLineAtAll() {
        Run.fresh().due(0, "text").due(0, "count", 15);
        Run.right("").due(0, "count", 15);
        Run.right(" \n").due(0, "count", 15);
    }

    @Says("[ by N { N } ]")
    static void byMayBeLeftOutButNotItsNumber() {
        Run.right("channel 0 1;member 0 0 1;").due(0, "member", 0, 3);
        Run.right("channel 0 1;member 0 0 1 by 0;").due(1, "member", 0, 3);
        Run.right("channel 0 1;".repeat(4) + "member 0 0 1 by 3 1 2 0;").due(15, "member", 0, 3);
        Run.fault("channel 0 1;member 0 0 1 by ^;");
        Run.fault("channel 0 1;member 0 0 1 by 0 ^by 0;");
    }

    @Says("CHANNELS that reach it, told ahead, each once")
    static void channelsMustBeToldAhead() {
        Run.right("channel 0 1;channel 0 1;member 0 0 1 by 1 0;");
        Run.fault("member 0 0 1 by ^0;channel 0 1;");
        Run.fault("channel 0 1;member 0 0 1 by ^1;channel 0 1;");
        Run.fault("channel 0 1;channel 0 1;member 0 0 1 by 0 ^2;");
    }

    @Says("MEMBERS told ahead, unlike ones")
    static void membersOfAConflictMustBeToldAhead() {
        Run.right("member 0 0 1;member 0 0 1;conflict 1 0;").due(1, "count", 2);
        Run.fault("conflict ^0 1;member 0 0 1;member 0 0 1;");
        Run.fault("member 0 0 1;conflict ^1 0;member 0 0 1;");
        Run.fault("member 0 0 1;conflict 0 ^1;member 0 0 1;");
        Run.fault("member 0 0 1;conflict 0 ^0;");
    }

    @Says("fund, fee, least, till, period at most once each (without: 0, 0, 0, 99, 0 and 99)")
    static void whatIsNotTold() {
        Run.right("member 1 2 3;").dueText("fund 0;fee 0;least 0;till 99;period 0 99;member 1 2 3;", "spell");
        Run.right("period 3 4;till 5;least 6;fee 7;fund 8;")
                .dueText("fund 8;fee 7;least 6;till 5;period 3 4;", "spell");
    }

    @Says("WORDS are small letters as far as they go on")
    static void wordsGoOn() {
        Run.fault("^funds 1;");
        Run.fault("^fundfee 1;");
        Run.fault("^fun d 1;");
        Run.fault("^fun1;");
        Run.fault("^Fund 1;");
        Run.fault("fund^D 1;");
        Run.fault("fund^` 1;");
        Run.fault("fund^{ 1;");
        Run.fault("^afund 1;");
        Run.fault("^fundz 1;");
    }

    @Says("N digits as far as they go on (one to five, 0s ahead, too)")
    static void numbersOfOneToFiveDigits() {
        Run.right("fund 7;").due(7, "count", 4);
        Run.right("fund 0;").due(0, "count", 4);
        Run.right("fund 12345;").due(12345, "count", 4);
        Run.right("fund 00012;").due(12, "count", 4).due(12, "line", 0, 1);
        Run.right("fee 00000;till 00099;").due(0, "line", 0, 1).due(99, "line", 1, 1);
        Run.fault("fund 9^/");
        Run.fault("fund 0^:");
    }

    @Says("Blanks (32), line ends (10) where one likes")
    static void blanksAnywhere() {
        Run.right("\n \nchannel\n0  1 \n;\n member 0\n\n0 1  by \n 0\n;  fee 2\n;\n\n").due(1, "member", 0, 3)
                .due(2, "line", 2, 1);
        Run.right("fund 1;fee 2;");
        Run.fault("fund^\t1;");
        Run.fault("fund 1;^\r\n");
        Run.fault("fund 1;^\u00a0");
        Run.fault("fund ^\u000b1;");
    }

    @Says("one at least between two WORDS, two N, a WORD and N (else the second one can't stand there)")
    static void noBlankBetween() {
        Run.fault("fund^1;");
        Run.fault("channel 0 1;member 0 0 1 by^0;");
        Run.fault("channel 0 1;member 0 0 1^by 0;");
        Run.fault("^memberby 0 0 1;");
        Run.right("fund\n1;");
        Run.right("channel 0 1;member\n0\n0\n1\nby\n0;");
    }

    // ---- I: FAULTS

    @Says("FAULT: the first byte that can't stand there")
    static void theFirstByte() {
        Run.fault("^;");
        Run.fault("^7;");
        Run.fault("^\0");
        Run.fault("^\u00ff");
        Run.fault("fund ^;");
        Run.fault("fund ^x;");
        Run.fault("fund ^-1;");
        Run.fault("fund 1^,");
        Run.fault("fund 1 ^2;");
        Run.fault("fund 1 ^fee 2;");
        Run.fault("fund 1;^;");
        Run.fault("fund 1;^5;");
        Run.fault(" ^5;");
        Run.fault("fee 1; ^5;");
        Run.fault("fund 1;^by 0;");
        Run.fault("fee ^51;fee ?");
    }

    @Says("of a WORD, N its first one")
    static void theFirstByteOfAWordOrNumber() {
        Run.fault("\n ^feee 1;");
        Run.fault("fund 1;^fex 1;");
        Run.fault("member 0 0 1 ^bye 0;");
        Run.fault("member 0 0 1 ^b 0;");
        Run.fault("till  ^100;");
        // A WORD that the TEXT's end cuts is one that is not known.
        Run.fault("^fun");
    }

    @Says("also an N out of bounds")
    static void aNumberOutOfBounds() {
        Run.fault("till ^100;");
        Run.fault("period 0 ^100;");
        Run.fault("channel 0 ^0;");
        Run.fault("member 0 0 ^00;");
        Run.fault("member 0 0 1;conflict ^10 0;");
    }

    @Says("of six digits or more")
    static void aNumberOfSixDigits() {
        Run.fault("fund ^000007;");
        Run.fault("fund ^123456;");
        Run.fault("fund ^99999999999999999999999;");
        Run.fault("fund ^4294967297;");
        Run.fault("fund ^000000");
    }

    @Says("a second day below the first")
    static void aSecondDayBelowTheFirst() {
        Run.fault("period 99 ^98;");
        Run.fault("period 1 ^0;");
        Run.fault("member 99 ^0 1;");
        Run.fault("member 1 ^0 1;");
    }

    @Says("a second fund, fee, least, till, period")
    static void aSecondOneOfASort() {
        Run.fault("fund 1;^fund 1;");
        Run.fault("fee 1;^fee 1;");
        Run.fault("least 1;^least 1;");
        Run.fault("till 1;^till 1;");
        Run.fault("period 1 1;^period 1 1;");
        Run.fault("fund 1;fee 1;least 1;till 1;period 1 1; ^fund");
        // 0 is told, too.
        Run.fault("fund 0;^fund 5;");
    }

    @Says({"a fifth channel", "an eleventh member at its WORD"})
    static void oneTooMany() {
        Run.fault("channel 0 1;".repeat(4) + "\n^channel");
        Run.fault("member 0 0 1;".repeat(10) + " ^member 100 0 1;");
    }

    @Says("of by a CHANNEL told twice")
    static void aChannelToldTwice() {
        Run.fault("channel 0 1;member 0 0 1 by 0 ^0;");
        Run.fault("channel 0 1;channel 0 1;member 0 0 1 by 0 1 ^00;");
        Run.fault("channel 0 1;".repeat(4) + "member 0 0 1 by 0 1 2 3 ^3;");
        // Of another MEMBER it is no second time.
        Run.right("channel 0 1;member 0 0 1 by 0;member 0 0 1 by 0;");
    }

    @Says("of conflict the same MEMBER, a CONFLICT told already, either way round, at its second N")
    static void aConflictToldTwice() {
        String three = "member 0 0 1;member 0 0 1;member 0 0 1;";
        Run.fault(three + "conflict 1 ^1;");
        Run.fault(three + "conflict 0 1;conflict 0 ^1;");
        Run.fault(three + "conflict 0 1;conflict 1 ^0;");
        Run.fault(three + "conflict 2 1;conflict 0 1;conflict 1 ^2;");
        Run.right(three + "conflict 0 1;conflict 0 2;conflict 1 2;").due(3, "count", 2);
    }

    @Says("the TEXT's length, if it ends too early")
    static void theTextEndsTooEarly() {
        Run.fault("fund^");
        Run.fault("fund ^");
        Run.fault("fund 1^");
        Run.fault("fund 1 \n^");
        Run.fault("period 1^");
        Run.fault("period 1 ^");
        Run.fault("channel 0 1;member 0 0 1^");
        Run.fault("channel 0 1;member 0 0 1 by^");
        Run.fault("channel 0 1;member 0 0 1 by 0^");
        Run.fault("member 0 0 1;member 0 0 1;conflict 0 1^");
        Run.fault("fund" + " ".repeat(396) + "^");
        Run.fault(" ".repeat(394) + "fund 1^");
        Run.fault(" ".repeat(388) + "member 0 0 1^");
        Run.fault(" ".repeat(373) + "channel 0 1;member 0 0 1 by^");
        Run.fault(" ".repeat(371) + "channel 0 1;member 0 0 1 by 0^");
        Run.right(" ".repeat(393) + "fund 1;");
    }

    // ---- II

    @Says("TODAY is day 0 at first (99 at most)")
    static void todayIsDay0To99() {
        Run.fresh().due(0, "count", 3).due(30, "days", 30).due(60, "days", 30).due(90, "days", 30).due(99, "days", 9)
                .due(NONE, "days", 1).due(99, "count", 3);
    }

    @Says({"The ORDER of CHANNELS (as told at first)", "digits to the base 4, as many as there are CHANNELS",
        "the first one highest"})
    static void theOrderAsTold() {
        int[] orders = {0, 0, 1, 6, 27};
        for (int channels = 0; channels <= 4; channels++) {
            Run.of("channel 0 1;".repeat(channels)).due(orders[channels], "count", 8);
        }
        Run.of("channel 0 1;channel 0 2;channel 0 4;channel 0 8;member 0 0 1 by 0;").due(1, "reachFor", 27, 0)
                .due(15, "reachFor", 228, 0).due(27, "order", 228).due(228, "count", 8).due(0, "send")
                .due(15, "member", 0, 8);
    }

    @Says("NOTICES are SENT once")
    static void noticesAreSentOnce() {
        Run.of(FOUR).due(10, "send").due(1, "days", 1).due(NONE, "send").due(0, "count", 7).due(10, "count", 6);
    }

    @Says({"each MEMBER is sent one by the first CHANNEL of the ORDER",
        "by one that does not reach it, it comes back after its WAIT, and goes by the next one"})
    static void waitsAddUp() {
        Run.of("channel 1 3;channel 10 5;channel 20 7;member 0 0 1 by 2;member 0 0 1 by 1 2;member 0 0 1 by 0;")
                .due(15, "reachFor", 6, 0).due(8, "reachFor", 6, 1).due(3, "reachFor", 6, 2).due(31 + 11 + 1, "send");
    }

    @Says("till one reaches it (behind its WAIT) or there is none")
    static void noneReachesIt() {
        Run.of("channel 1 3;channel 10 5;member 0 0 1;").due(-2, "reachFor", 1, 0).due(11, "send").due(-2, "member", 0, 8)
                .due(0, "reachedBy", 199);
    }

    @Says("COSTS are all of them together (0 till they are SENT)")
    static void costsAre0TillSent() {
        Run.of(FOUR).due(0, "count", 6).due(900, "fundOf", 0).due(10, "send").due(10, "count", 6).due(890, "fundOf", 0)
                .due(0, "undo").due(0, "count", 6).due(900, "fundOf", 0);
    }

    @Says("REACHED is a MEMBER from the day it comes on")
    static void reachedFromThatDayOn() {
        Run.of(FOUR).due(10, "send").due(2, "days", 2).due(NONE, "file", 0).due(NONE, "out", 0).due(0, "reachedBy", 2)
                .due(3, "days", 1).due(1, "file", 0).due(1, "out", 0).due(9, "reachedBy", 3);
    }

    @Says("LAZY who never cashes (at first none)")
    static void atFirstNone() {
        Run.of(FOUR).due(0, "count", 9).due(0, "count", 10).due(0, "count", 11);
    }

    @Says("SUB-CLASSES of MEMBERS that are not OUT: the fewest, no two of a CONFLICT in one")
    static void theFewestSubClasses() {
        Run.fresh().due(0, "classes");
        Run.of("member 0 0 1;").due(1, "classes");
        Run.of(Run.members(10)).due(1, "classes");
        // Taken one by one, each in the least one it fits in, the path would be in three.
        Run.of(Run.PATH).due(2, "classes");
        Run.of(Run.KITE).due(3, "classes");
        Run.filed("", 1, 1).due(1, "quarrel", 0, 1).due(2, "classes").due(1, "out", 0).due(1, "classes").due(2, "out", 1)
                .due(0, "classes");
    }

    @Says("of all such ways the first: MEMBER by MEMBER each in the least one (0 up) by which it goes on to so few")
    static void theFirstOfAllWays() {
        // 1 fits into 0, but then two are too few.
        Run.of(Run.PATH).due(0, "classOf", 0).due(1, "classOf", 1).due(1, "classOf", 2).due(0, "classOf", 3);
        // 0 and 3 could be in any of three.
        Run.of("member 0 0 1;".repeat(5) + "conflict 1 2;conflict 2 4;conflict 1 4;").due(1 + 2 + 8, "classBits", 0)
                .due(4, "classBits", 1).due(16, "classBits", 2);
    }

    // ---- III

    @Says("NET: FUND less COSTS less FEE hundredths of FUND (cut), 0 at least")
    static void netIs0AtLeast() {
        Run.of(FOUR).due(10, "send").due(1000, "fund", 10).due(0, "fundOf", 0).due(10, "fund", 11).due(0, "fundOf", 0)
                .due(11, "fund", 12).due(1, "fundOf", 0).due(12, "fund", 0).due(0, "fundOf", 0).due(0, "fund", 9)
                .due(0, "fundOf", 0).due(0, "fundOf", 3);
        // 19 hundredths more than 1, 99 hundredths more than 1.
        Run.of("fund 17;fee 7;").due(16, "fundOf", 0).due(17, "fund", 28).due(27, "fundOf", 0).due(28, "fund", 29)
                .due(27, "fundOf", 0);
        Run.of("fund 99999;fee 50;").due(50000, "fundOf", 0);
    }

    @Says("COUNTED are MEMBERS that FILED, are not OUT, with a CLAIM above 0")
    static void whoIsCounted() {
        Run.filed("fund 9;", 1, 2).due(2, "fundOf", 4).due(1, "out", 0).due(1, "fundOf", 4).due(0, "period", 1, 1)
                .due(0, "fundOf", 4);
        Run.of(FOUR).due(0, "fundOf", 4);
        // A CLAIM of 1 is above 0.
        Run.filed("fund 9;", 1).due(1, "fundOf", 4).due(1, "paid", 0);
    }

    @Says("by RULE 0 (at first): NET times the CLAIMS of those COUNTED in it by all CLAIMS of COUNTED ones")
    static void potByRule0IsCut() {
        Run.of(FOUR).due(0, "count", 5);
        // 10 * 3 / 7 and 10 * 4 / 7.
        Run.filed("fund 10;", 3, 4).due(1, "quarrel", 0, 1).due(4, "pot", 0).due(5, "pot", 1);
    }

    @Says("1: NET times how many are COUNTED in it by how many there are")
    static void potByRule1IsCut() {
        Run.filed("fund 10;", 9, 1, 1).due(1, "quarrel", 0, 1).due(1, "quarrel", 0, 2).due(0, "rule", 1).due(3, "pot", 0)
                .due(6, "pot", 1);
    }

    @Says("2: NET by how many SUB-CLASSES have a COUNTED one, if it has; cut")
    static void potByRule2IsCut() {
        Run.filed("fund 11;", 9, 1, 1).due(1, "quarrel", 0, 1).due(1, "quarrel", 0, 2).due(0, "rule", 2).due(5, "pot", 0)
                .due(5, "pot", 1).due(1, "out", 0).due(11, "pot", 0).due(NONE, "pot", 1);
    }

    @Says("0, if none is COUNTED in it")
    static void potWithoutACountedOne() {
        for (int rule = 0; rule < 3; rule++) {
            Run t = Run.of("fund 10;" + Run.members(3)).due(1, "quarrel", 0, 1).due(0, "send").due(1, "days", 1);
            t.due(0, "pot", 0).due(0, "pot", 1).due(1, "file", 0);
            if (rule > 0) {
                t.due(0, "rule", rule);
            }
            t.due(10, "pot", 0).due(0, "pot", 1).due(2, "file", 1).due(5, "pot", 0).due(5, "pot", 1);
        }
    }

    @Says("ROUND 1: each COUNTED MEMBER is sent the lesser of its CLAIM and (POT of its SUB-CLASS times CLAIM by the "
            + "CLAIMS of those COUNTED in it), cut")
    static void roundOneIsCut() {
        Run.filed("fund 8;", 3, 3, 3).due(2, "had", 0, 1).due(2, "had", 2, 1).due(1, "fundOf", 2).due(2, "fundOf", 3);
        Run.filed("fund 9;", 3, 3, 3).due(3, "had", 0, 1).due(0, "fundOf", 3);
        Run.filed("fund 10;", 3, 3, 3).due(3, "had", 0, 1).due(1, "fundOf", 3);
        Run.filed("fund 2;", 3, 3, 3).due(0, "had", 0, 1).due(0, "fundOf", 2).due(2, "fundOf", 3);
    }

    @Says("nothing, if that is below LEAST. Who is not LAZY has it")
    static void roundOneBelowLeast() {
        Run.filed("fund 8;least 2;", 3, 3, 3).due(2, "paid", 0).due(1, "fundOf", 2);
        Run.filed("fund 8;least 3;", 3, 3, 3).due(0, "paid", 0).due(0, "fundOf", 2).due(8, "fundOf", 3);
        Run.filed("fund 99;least 3;", 2, 3).due(0, "paid", 0).due(3, "paid", 1);
    }

    @Says("LEFT is NET less all that is had")
    static void whatALazyOneIsSentIsLeft() {
        Run.filed("fund 9;", 3, 3, 3).due(1, "lazy", 0, true).due(0, "paid", 0).due(3, "paid", 1).due(3, "fundOf", 3);
        Run.filed("fund 9;", 3, 3, 3).due(1, "lazy", 0, true).due(1, "lazy", 1, true).due(1, "lazy", 2, true)
                .due(0, "fundOf", 2).due(9, "fundOf", 3).due(3, "fundOf", 4);
    }

    @Says("A further ROUND: each COUNTED one that is not LAZY and lacks something of its CLAIM")
    static void whoTakesPartInAFurtherRound() {
        // MEMBER 0 is LAZY, 2 has all its CLAIM by a POT of its own; 5 of LEFT go to 1.
        Run.filed("fund 20;", 10, 10, 1).due(1, "quarrel", 0, 2).due(1, "quarrel", 1, 2).due(0, "rule", 2)
                .due(1, "lazy", 0, true).due(5, "had", 1, 1).due(1, "had", 2, 1).due(5, "had", 1, 2).due(0, "had", 2, 2)
                .due(0, "had", 0, 2).due(2, "fundOf", 2).due(9, "fundOf", 3);
    }

    @Says("is sent the lesser of what it lacks and (LEFT times that by all that is lacked by such), cut")
    static void aFurtherRoundIsCut() {
        // ROUND 1 leaves 5 for two that lack 3 each.
        Run.filed("fund 9;", 10, 5, 5).due(1, "lazy", 0, true).due(2, "had", 1, 1).due(2, "had", 1, 2)
                .due(2, "had", 2, 2).due(2, "fundOf", 2).due(1, "fundOf", 3);
        // ROUND 1 leaves 8 for one that lacks 2.
        Run.filed("fund 16;", 10, 10).due(1, "lazy", 0, true).due(8, "had", 1, 1).due(2, "had", 1, 2).due(6, "fundOf", 3);
    }

    @Says("nothing, if below LEAST; LEFT is less by it")
    static void aFurtherRoundBelowLeast() {
        // Behind ROUND 1 both lack 2, and 16 are LEFT.
        Run.filed("fund 32;least 3;", 20, 10, 10).due(1, "lazy", 0, true).due(8, "paid", 1).due(1, "fundOf", 2)
                .due(16, "fundOf", 3);
        Run.filed("fund 32;least 2;", 20, 10, 10).due(1, "lazy", 0, true).due(10, "paid", 1).due(2, "fundOf", 2)
                .due(12, "fundOf", 3);
    }

    @Says("ROUNDS go on till one by which nobody has more (it does not count)")
    static void theRoundThatDoesNotCount() {
        Run.manyRounds().due(6, "fundOf", 2).due(1, "had", 0, 6).due(0, "had", 0, 7).due(3, "fundOf", 3);
        Run.filed("fund 5;", 5).due(1, "fundOf", 2).due(0, "had", 0, 2);
        Run.filed("", 5).due(0, "fundOf", 2).due(0, "had", 0, 1);
        // ROUND 1 itself: MEMBER 0 is LAZY, 1 would be sent 18; what is LEFT would be enough for it.
        Run.filed("fund 100;least 20;", 90, 20).due(1, "lazy", 0, true).due(0, "fundOf", 2).due(100, "fundOf", 3);
    }

    /** No FUND and CLAIMS are known that make more than six; so it is all that can be seen of the limit. */
    @Says("or 9 were")
    static void nineRoundsCanBeAskedFor() {
        Run.manyRounds().due(0, "had", 0, 9).due(NONE, "had", 0, 10).due(6, "fundOf", 2);
    }

    @Says({"PAID is what a MEMBER has in all", "NEXT BEST has what is LEFT then"})
    static void whatIsPaidAndLeft() {
        Run.manyRounds().due(9, "paid", 0).due(0, "paid", 1).due(3, "fundOf", 3).due(9, "fundOf", 1);
        Run.fresh().due(0, "fundOf", 3).due(0, "fund", 7).due(7, "fundOf", 3);
    }

    // ---- IV

    @Says("ACTS, of which the latest 12 can be undone")
    static void thirteenActs() {
        Run t = Run.fresh();
        for (int k = 1; k <= 13; k++) {
            t.due(k - 1, "fund", k).due(Math.min(k, 12), "count", 13);
        }
        for (int k = 11; k >= 0; k--) {
            t.due(k, "undo").due(k + 1, "count", 4);
        }
        t.due(NONE, "undo").due(1, "count", 4);
    }

    @Says("(text() forgets them)")
    static void textForgetsActs() {
        Run.going().due(6, "count", 13).due(0, "text").due(0, "count", 13).due(NONE, "undo");
        // Behind a FAULT all else stays.
        Run.going().dueTold(-4, "?").due(6, "count", 13).due(5, "undo").due(3, "count", 10);
    }

    @Says("WERE: things are as they are but for what is told; nothing happens")
    static void whatWereDoesNotHappen() {
        Run.nothingHappens(Run::scarce, 50, "wereOut", 0, 1);
        Run.nothingHappens(Run::scarce, 50, "wereFund", 1000, 0);
        Run.nothingHappens(Run::scarce, 40, "wereRule", 2, 1);
        Run.nothingHappens(Run::scarce, 2, "ruleFor", 1);
        Run.nothingHappens(Run::scarce, 1, "leaver", 0);
        Run.nothingHappens(Run::scarce, 70, "alone", 9);
        Run.nothingHappens(Run::scarce, 131, "needs");
        Run.nothingHappens(Run::scarce, 0, "rests", 0, 0, 0);
        Run.nothingHappens(Run::scarce, 10, "costFor", 1);
        Run.nothingHappens(Run::scarce, 3, "reachFor", 1, 0);
        Run.nothingHappens(Run::scarce, 8, "cheapest", 4, 0);
        Run.nothingHappens(Run::scarce, -2, "settles");
    }

    @Says("A set of MEMBERS is told as bits; out of bounds: below 0, one that is not there")
    static void setsOutOfBounds() {
        Run.of(FOUR).due(210, "estimate", 15).due(NONE, "estimate", 16).due(NONE, "estimate", 31).due(NONE, "estimate", NONE)
                .due(NONE, "estimate", Run.LOW).due(NONE, "estimate", BIG).due(0, "alone", 15).due(NONE, "alone", 16)
                .due(NONE, "alone", NONE).due(NONE, "alone", Run.LOW).due(NONE, "alone", BIG);
        Run.of(Run.members(10)).due(10, "estimate", 1023).due(NONE, "estimate", 1024).due(0, "alone", 1023)
                .due(NONE, "alone", 1024);
    }

    @Says("Where NONE and -2 could both be told, it is NONE")
    static void noneAheadOfMinus2() {
        Run.of(FOUR).due(NONE, "line", 13, 9).due(NONE, "reachFor", 0, 2).due(NONE, "cheapest", 0, 2)
                .due(NONE, "votes", 101).due(NONE, "rests", 101, 0, BIG).due(NONE, "rests", 0, 1000, BIG)
                .due(NONE, "member", 4, 8).due(-2, "line", 12, 9).due(-2, "reachFor", 1, 2).due(-2, "cheapest", 0, 1)
                .due(-2, "votes", 100).due(-2, "rests", 100, 999, BIG).due(-2, "member", 3, 8);
    }
}
