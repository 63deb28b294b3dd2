/** For each promise of the document calls with the answers that are due, told by hand. */
public final class PromisesTest {
    private static final int PROMISES = 53;
    private static final int NONE = Run.NONE;
    private static final int BIG = Run.BIG;
    private static final int LOW = Run.LOW;
    private static final String FOUR = Run.FOUR;
    private static final String PATH = Run.PATH;
    private static final String KITE = Run.KITE;

    public static void main(String[] args) throws Exception {
        for (int promise = 1; promise <= PROMISES; promise++) {
            Run.isAbout("promise " + promise);
            PromisesTest.class.getDeclaredMethod("promise" + promise).invoke(null);
            if (Run.askedSince() == 0) {
                Run.tellWrong("nothing was asked");
            }
        }
        Run.end("all promises hold");
    }

    static void promise1() {
        Run t = Run.fresh();
        int[] counts = {0, 0, 0, 0, 0, 0, 0, -2, 0, 0, 0, 0, 0, 0, 0, 0};
        for (int what = 0; what < counts.length; what++) {
            t.due(counts[what], "count", what);
        }
        t.dueText("fund 0;fee 0;least 0;till 99;period 0 99;", "spell").dueText("next 0;", "report");
        t.due(NONE, "line", 0, 0).due(NONE, "member", 0, 0).due(NONE, "channel", 0, 0).due(NONE, "undo");
    }

    static void promise2() {
        Run t = Run.fresh();
        for (int k = 1; k <= 20; k++) {
            t.due(20 * k, "feed", 0, LOW, NONE, BIG, k);
        }
        t.due(NONE, "feed", 0, 0, 0, 0, 0).due(400, "count", 14);
        t.due(381, "back", 19).due(NONE, "feed", 0, 0, 0, 0, 0).due(381, "count", 14);
        t.due(380, "back", 1).due(400, "feed", 0, 0, 0, 0, 0);
        // "fund", " 123", "45;\n", "fee ", "8  ;"
        Run.fresh().due(20, "feed", 0x66756e64, 0x20313233, 0x34353b0a, 0x66656520, 0x3820203b)
                .due(0, "text").due(12345, "count", 4).due(8, "line", 1, 1);
        // What comes second stands behind: the first byte that can't stand is number 20.
        Run.fresh().due(20, "feed", 0x20202020, 0x20202020, 0x20202020, 0x20202020, 0x20202020)
                .due(40, "feed", 0xff202020, 0, 0, 0, 0).due(-24, "text");
    }

    static void promise3() {
        Run.fresh().due(0, "back", 0).due(NONE, "back", 1).due(NONE, "back", NONE);
        Run.fresh().due(20, "feed", 0x66656520, 0x373b2020, 0, 0, 0).due(NONE, "back", 21).due(NONE, "back", BIG)
                .due(NONE, "back", LOW).due(20, "count", 14).due(14, "back", 6).due(6, "back", 8).due(6, "back", 0)
                .due(0, "text").due(7, "line", 0, 1);
        Run.fresh().due(20, "feed", 1, 2, 3, 4, 5).due(0, "back", 20).due(0, "text");
    }

    static void promise4() {
        rightTexts();
        faultsOfWordsAndNumbers();
        faultsOfLines();
        textBeginsAnew();
    }

    private static void rightTexts() {
        Run.fresh().due(0, "text").due(0, "count", 15);
        Run.fresh().dueTold(0, " \n ").due(0, "count", 15);
        Run.fresh().dueTold(4, FOUR).due(2, "count", 1).due(2, "count", 2).due(0, "count", 14).due(210, "count", 12);
        Run.fresh().dueTold(1, "\nchannel\n1\n2\n;  member 1\n \n2 00003  by\n0 ; ").due(2, "channel", 0, 1)
                .due(3, "member", 0, 2).due(1, "member", 0, 3);
        Run.fresh().dueTold(0, "fund 99999;fee 50;least 999;till 99;period 99 99;channel 99 30;channel 0 1;");
        Run.fresh().dueTold(2, "member 0 0 1;member 99 99 99;conflict 1 0;").due(2, "member", 0, 9);
        Run.fresh().dueTold(0, "fund 0;fee 0;least 0;").due(3, "count", 15);
        Run.fresh().dueTold(0, "fund 00000;fee 00050;till 0;period 0 0;").due(0, "count", 4);
        Run.fresh().dueTold(1, "channel 1 1;channel 1 1;channel 1 1;channel 1 1;member 1 1 1 by 3 1 0 2;")
                .due(15, "member", 0, 3).due(27, "count", 8);
        Run.fresh().dueTold(0, "channel 1 1;").due(0, "count", 8);
        Run.fresh().dueTold(0, "channel 1 1;channel 1 1;channel 1 1;").due(6, "count", 8);
    }

    private static void faultsOfWordsAndNumbers() {
        Run.dueFault(0, ";");
        Run.dueFault(0, "5;");
        Run.dueFault(0, "funds 1;");
        Run.dueFault(0, "fun");
        Run.dueFault(0, "by 1;");
        Run.dueFault(0, "Fund 1;");
        Run.dueFault(3, "\n  feee 1;");
        Run.dueFault(0, "xund 1;");
        Run.dueFault(0, "funda 1;");
        Run.dueFault(0, "fundz 1;");
        Run.dueFault(4, "fund{ 1;");
        Run.dueFault(4, "fund` 1;");
        Run.dueFault(6, "fund 0:");
        Run.dueFault(6, "fund 9/");
        Run.dueFault(4, "fundX 1;");
        Run.dueFault(4, "fund");
        Run.dueFault(6, "fund  ");
        Run.dueFault(4, "fund1;");
        Run.dueFault(4, "fund;");
        Run.dueFault(5, "fund ;");
        Run.dueFault(5, "fund x;");
        Run.dueFault(5, "fund -1;");
        Run.dueFault(6, "fund 1");
        Run.dueFault(7, "fund 1 ");
        Run.dueFault(6, "fund 1fee 2;");
        Run.dueFault(7, "fund 1 2;");
        Run.dueFault(7, "fund 1 fee 2;");
        Run.dueFault(7, "fund 1;;");
        Run.dueFault(5, "fund 123456;");
        Run.dueFault(5, "fund 000001;");
        Run.dueFault(5, "fund 99999999999999999999;");
        Run.dueFault(4, "fund\t1;");
        Run.dueFault(5, "fund \r1;");
        Run.dueFault(7, "fund 1;\u00e9");
        Run.dueFault(7, "fund 1;\0");
        Run.dueFault(6, "fund 1,");
    }

    private static void faultsOfLines() {
        Run.dueFault(4, "fee 51;");
        Run.dueFault(6, "least 1000;");
        Run.dueFault(5, "till 100;");
        Run.dueFault(7, "period 100 100;");
        Run.dueFault(10, "period 99 100;");
        Run.dueFault(9, "period 5 4;");
        Run.dueFault(8, "period 5;");
        Run.dueFault(7, "fund 1;fund 1;");
        Run.dueFault(6, "fee 1;fee 1;");
        Run.dueFault(13, "fund 1;fee 1;fund 1;");
        Run.dueFault(8, "least 1;least 1;");
        Run.dueFault(7, "till 1;till 1;");
        Run.dueFault(11, "period 1 1;period 1 1;");
        Run.dueFault(8, "channel 100 1;");
        Run.dueFault(10, "channel 1 0;");
        Run.dueFault(10, "channel 1 31;");
        Run.dueFault(48, "channel 1 1;channel 1 1;channel 1 1;channel 1 1;channel 1 1;");
        Run.dueFault(7, "member 100 1 1;");
        Run.dueFault(9, "member 5 4 1;");
        Run.dueFault(9, "member 5 100 1;");
        Run.dueFault(11, "member 5 5 0;");
        Run.dueFault(11, "member 5 5 100;");
        Run.dueFault(12, "member 5 5 5by 0;");
        Run.dueFault(13, "member 5 5 5 be 0;");
        Run.dueFault(13, "member 5 5 5 by0;".substring(0, 13) + "5;");
        Run.dueFault(15, "member 5 5 5 by0;");
        Run.dueFault(16, "member 5 5 5 by ;");
        Run.dueFault(16, "member 5 5 5 by 0;");
        Run.dueFault(28, "channel 1 1;member 5 5 5 by 1;channel 1 1;");
        Run.dueFault(30, "channel 1 1;member 5 5 5 by 0 0;");
        Run.dueFault(44, "channel 1 1;channel 1 1;member 5 5 5 by 1 0 1;");
        Run.dueFault(30, "channel 1 1;member 5 5 5 by 0 by 0;");
        Run.dueFault(29, "channel 1 1;member 5 5 5 by 0by;");
        Run.dueFault(130, "member 0 0 1;".repeat(11));
        Run.dueFault(9, "conflict 0 1;member 0 0 1;member 0 0 1;");
        Run.dueFault(24, "member 0 0 1;conflict 0 1;");
        Run.dueFault(37, "member 0 0 1;member 0 0 1;conflict 0 0;");
        Run.dueFault(50, "member 0 0 1;member 0 0 1;conflict 0 1;conflict 0 1;");
        Run.dueFault(50, "member 0 0 1;member 0 0 1;conflict 0 1;conflict 1 0;");
        Run.dueFault(35, "member 0 0 1;member 0 0 1;conflict 2 0;");
        Run.dueFault(37, "member 0 0 1;member 0 0 1;conflict 1 2;");
        Run.dueFault(400, ("fund 1" + " ".repeat(400)).substring(0, 400));
    }

    private static void textBeginsAnew() {
        Run t = Run.scarce().due(0, "rule", 2).due(1, "lazy", 0, true).due(1, "out", 1);
        int acts = 10;
        t.due(acts, "count", 13);
        t.dueTold(-4, "?").due(acts, "count", 13).due(100, "count", 4).due(2, "count", 9).due(13, "count", 15)
                .due(4, "count", 0).due(4, "count", 3).due(acts - 1, "undo");
        t.dueTold(1, "member 1 2 3;").due(0, "count", 13).due(NONE, "undo").due(0, "count", 3).due(0, "count", 4)
                .due(0, "count", 5).due(0, "count", 6).due(-2, "count", 7).due(0, "count", 8).due(0, "count", 9)
                .due(0, "count", 10).due(0, "count", 11).due(6, "count", 12).due(1, "count", 15).due(0, "count", 2)
                .dueText("fund 0;fee 0;least 0;till 99;period 0 99;member 1 2 3;", "spell");
        t.due(0, "text").due(0, "count", 0).due(0, "count", 15);
        // Nothing is left of any TEXT ahead.
        Run.of(FOUR).dueTold(4, FOUR).dueTold(4, FOUR).dueTold(1, "member 1 2 3;").due(1, "line", 0, 1).due(3, "line", 0, 3)
                .due(-2, "line", 0, 4).dueText("fund 0;fee 0;least 0;till 99;period 0 99;member 1 2 3;", "spell");
    }

    static void promise5() {
        Run.fresh().due(NONE, "days", 0).due(NONE, "days", 31).due(NONE, "days", NONE).due(NONE, "days", BIG)
                .due(0, "count", 3).due(0, "count", 13).due(30, "days", 30).due(60, "days", 30).due(90, "days", 30)
                .due(NONE, "days", 10).due(90, "count", 3).due(99, "days", 9).due(NONE, "days", 1).due(99, "count", 3)
                .due(4, "count", 13);
    }

    static void promise6() {
        Run.of(FOUR).due(NONE, "order", 1).due(NONE, "order", 0).due(NONE, "order", 5).due(NONE, "order", 2)
                .due(NONE, "order", 17).due(NONE, "order", 20).due(NONE, "order", NONE).due(NONE, "order", LOW + 4)
                .due(0, "count", 13).due(1, "order", 4).due(4, "count", 8).due(4, "order", 1).due(1, "order", 4)
                .due(8, "send").due(NONE, "order", 1).due(4, "count", 8).due(4, "count", 13);
        Run.fresh().due(NONE, "order", 0).due(NONE, "order", 1);
        Run.of("channel 1 1;channel 1 1;channel 1 1;channel 1 1;").due(27, "order", 228).due(228, "order", 27)
                .due(NONE, "order", 256 + 228).due(NONE, "order", 255);
    }

    static void promise7() {
        Run.fresh().due(NONE, "send");
        Run.of("member 1 1 1;").due(NONE, "send").due(0, "count", 13);
        Run.of(FOUR).due(10, "send").due(NONE, "send").due(10, "count", 6).due(0, "count", 7).due(1, "count", 13);
        Run.of(FOUR).due(1, "order", 4).due(7, "days", 7).due(8, "send").due(7, "count", 7).due(11, "member", 0, 8);
        Run.of("channel 5 5;").due(0, "send").due(0, "count", 7).due(NONE, "send");
    }

    static void promise8() {
        Run t = Run.of(FOUR).due(NONE, "out", 1).due(10, "send").due(NONE, "out", 1).due(3, "days", 3);
        t.due(NONE, "out", 1).due(1, "out", 0).due(NONE, "out", 0).due(1, "count", 9).due(4, "days", 1).due(2, "out", 1);
        t.due(NONE, "out", 2).due(NONE, "out", 4).due(NONE, "out", NONE).due(NONE, "out", 32).due(3, "count", 9);
        t.due(9, "days", 5).due(1, "file", 3).due(3, "out", 3).due(11, "count", 9).due(8, "count", 10);
        Run.of(FOUR).due(10, "send").due(9, "days", 9).due(1, "out", 0).due(10, "days", 1).due(NONE, "out", 1)
                .due(1, "count", 9).due(4, "count", 13);
    }

    static void promise9() {
        Run t = Run.of(FOUR).due(NONE, "file", 0).due(10, "send").due(2, "days", 2).due(NONE, "file", 0);
        t.due(3, "days", 1).due(1, "file", 0).due(NONE, "file", 0).due(NONE, "file", 1).due(4, "days", 1);
        t.due(2, "file", 1).due(3, "count", 10).due(NONE, "file", 2).due(NONE, "file", NONE).due(NONE, "file", 4);
        t.due(1, "out", 3).due(NONE, "file", 3).due(3, "count", 10).due(34, "days", 30).due(1, "member", 1, 6);
        // TILL does not bind who files.
        Run.of(FOUR).due(10, "send").due(30, "days", 30).due(1, "file", 3);
    }

    static void promise10() {
        Run.of(FOUR).due(0, "lazy", 0, false).due(1, "lazy", 0, true).due(0, "lazy", 0, true).due(1, "lazy", 2, true)
                .due(5, "count", 11).due(1, "lazy", 0, false).due(4, "count", 11).due(0, "lazy", 4, true)
                .due(0, "lazy", NONE, true).due(0, "lazy", 32, true).due(0, "lazy", NONE, false).due(3, "count", 13);
    }

    static void promise11() {
        Run.of(FOUR).due(NONE, "fund", 1000).due(NONE, "fund", NONE).due(NONE, "fund", 100000).due(0, "count", 13)
                .due(1000, "fund", 0).due(0, "count", 4).due(0, "fund", 99999).due(99999, "count", 4)
                .due(NONE, "fund", 99999).due(99999, "fund", 5).due(3, "count", 13);
    }

    static void promise12() {
        Run.fresh().due(NONE, "rule", 0).due(NONE, "rule", 3).due(NONE, "rule", NONE).due(0, "rule", 2).due(2, "rule", 1)
                .due(1, "count", 5).due(NONE, "rule", 1).due(1, "rule", 0).due(3, "count", 13);
    }

    static void promise13() {
        Run.of(FOUR).due(NONE, "period", 10, 19).due(NONE, "period", NONE, 19).due(NONE, "period", 10, 100)
                .due(NONE, "period", 20, 19).due(NONE, "period", LOW, BIG).due(0, "count", 13)
                .due(10 + 5 + 10, "period", 14, 14).due(50 + 50 + 1000 + 240, "period", 0, 99)
                .due(0 + 0 + 600 + 0, "period", 40, 99).due(0 + 0 + 10 + 0, "period", 99, 99).due(4, "count", 13)
                .due(10, "count", 12);
        // An OUT one's CLAIM stays among all CLAIMS.
        Run.going().due(1, "out", 0).due(1340, "period", 0, 99);
    }

    static void promise14() {
        Run.of(FOUR).due(0, "quarrel", 1, 0).due(1, "count", 2).due(1, "quarrel", 2, 3).due(2, "count", 2)
                .due(0, "quarrel", 2, 3).due(1, "quarrel", 0, 1).due(2, "member", 0, 9).due(9, "member", 1, 9)
                .due(NONE, "quarrel", 2, 2).due(NONE, "quarrel", 0, 4).due(NONE, "quarrel", NONE, 0)
                .due(NONE, "quarrel", 4, 0).due(NONE, "quarrel", 0, 33).due(4, "count", 13);
    }

    static void promise15() {
        Run.fresh().due(NONE, "undo");
        eachActIsUndone();
        Run t = Run.fresh();
        for (int k = 1; k <= 14; k++) {
            t.due(k - 1, "fund", k);
        }
        t.due(12, "count", 13);
        for (int k = 11; k >= 0; k--) {
            t.due(k, "undo").due(k + 2, "count", 4);
        }
        t.due(NONE, "undo").due(2, "count", 4).due(2, "fund", 9).due(0, "undo").due(2, "count", 4);
        // What did not happen is no ACT.
        Run.fresh().due(NONE, "days", 0).due(NONE, "fund", 0).due(0, "lazy", 0, true).due(NONE, "undo");
    }

    private static void eachActIsUndone() {
        Run t = Run.of(FOUR);
        t.due(1, "order", 4).due(0, "undo").due(1, "count", 8);
        t.due(3, "days", 3).due(0, "undo").due(0, "count", 3);
        t.due(10, "send").due(0, "undo").due(-2, "count", 7).due(0, "count", 6).due(-2, "member", 0, 8);
        t.due(1, "order", 4).due(8, "send").due(4, "days", 4);
        t.due(1, "file", 0).due(2, "file", 1).due(4, "undo").due(1, "count", 10).due(3, "undo").due(0, "count", 10);
        t.due(1, "out", 0).due(3, "undo").due(0, "count", 9).due(1, "out", 0).due(3, "undo");
        t.due(1, "lazy", 1, true).due(1, "lazy", 1, false).due(4, "undo").due(2, "count", 11).due(3, "undo")
                .due(0, "count", 11);
        t.due(1000, "fund", 7).due(3, "undo").due(1000, "count", 4);
        t.due(0, "rule", 2).due(3, "undo").due(0, "count", 5);
        t.due(1340, "period", 0, 99).due(3, "undo").due(210, "count", 12).due(NONE, "period", 10, 19);
        t.due(0, "quarrel", 0, 1).due(1, "quarrel", 2, 3).due(4, "undo").due(1, "count", 2).due(3, "undo")
                .due(2, "member", 0, 9);
        t.due(2, "undo").due(0, "count", 3).due(1, "undo").due(-2, "count", 7).due(0, "undo").due(1, "count", 8)
                .due(NONE, "undo");
    }

    static void promise16() {
        Run t = Run.of(FOUR);
        int[] first = {10, 14, 10, 1, 50, 0, 0, 0, -2, 2};
        int[] last = {19, 30, 20, 3, 20, 0, 0, 0, -2, 2};
        for (int what = 0; what < 10; what++) {
            t.due(first[what], "member", 0, what).due(last[what], "member", 3, what);
        }
        t.due(NONE, "member", 0, 10).due(NONE, "member", 0, NONE).due(NONE, "member", 4, 0).due(NONE, "member", NONE, 0)
                .due(NONE, "member", NONE, 8).due(NONE, "member", 0, BIG);
        Run.going().due(1, "lazy", 0, true).due(1, "out", 3).due(1, "member", 3, 5).due(1, "member", 3, 6)
                .due(0, "member", 3, 7).due(1, "member", 0, 7).due(0, "member", 0, 5).due(4, "member", 0, 8)
                .due(1, "member", 1, 8).due(-2, "member", 2, 8).due(9, "member", 1, 9).due(0, "member", 2, 9);
        // Its days lie out of PERIOD; one of them touches it; all of PERIOD is within them.
        Run.of("period 5 9;member 0 4 7;member 9 20 7;member 0 99 7;member 10 12 7;").due(0, "member", 0, 4)
                .due(7, "member", 1, 4).due(35, "member", 2, 4).due(0, "member", 3, 4);
    }

    static void promise17() {
        Run.of(FOUR).due(2, "channel", 0, 0).due(3, "channel", 0, 1).due(2, "channel", 0, 2).due(1, "channel", 1, 0)
                .due(1, "channel", 1, 1).due(2, "channel", 1, 2).due(NONE, "channel", 2, 0).due(NONE, "channel", NONE, 0)
                .due(NONE, "channel", 0, 3).due(NONE, "channel", 0, NONE).due(NONE, "channel", BIG, 2);
        Run.of("channel 7 30;member 0 0 1;").due(0, "channel", 0, 2).due(7, "channel", 0, 0);
    }

    static void promise18() {
        Run t = Run.of(FOUR);
        int[][] lines = {{0, 1000}, {1, 10}, {2, 5}, {3, 9}, {4, 10, 19}, {5, 2, 3}, {5, 1, 1}, {6, 10, 14, 10, 0},
            {6, 12, 21, 5, 1}, {6, 0, 99, 10}, {6, 19, 30, 20, 1, 0}, {7, 0, 1}, {7, 3, 1}};
        for (int k = 0; k < lines.length; k++) {
            for (int what = 0; what < lines[k].length; what++) {
                t.due(lines[k][what], "line", k, what);
            }
            t.due(-2, "line", k, lines[k].length).due(-2, "line", k, BIG).due(NONE, "line", k, NONE);
        }
        t.due(NONE, "line", 13, 0).due(NONE, "line", NONE, 0).due(NONE, "line", 13, BIG).due(NONE, "line", LOW, BIG);
        // ACTS and a wrong TEXT leave the LINES.
        t.due(1000, "fund", 1).due(1000, "line", 0, 1).dueTold(-9, "fund ;").due(1000, "line", 0, 1);
        for (int k = 0; k < 20; k++) {
            t.dueTold(4, FOUR).due(1, "line", 12, 2).due(-2, "line", 12, 3);
        }
        t.dueTold(0, "till 0008;").due(3, "line", 0, 0).due(8, "line", 0, 1).due(NONE, "line", 1, 0);
    }

    static void promise19() {
        Run.of(FOUR).due(2, "ranked", 0).due(0, "ranked", 1).due(1, "ranked", 2).due(3, "ranked", 3).due(NONE, "ranked", 4)
                .due(NONE, "ranked", NONE).due(NONE, "ranked", BIG);
        Run.of("member 0 0 5;member 0 0 6;member 0 0 5;member 0 0 6;").due(1, "ranked", 0).due(3, "ranked", 1)
                .due(0, "ranked", 2).due(2, "ranked", 3).due(0, "period", 1, 1).due(0, "ranked", 0).due(3, "ranked", 3);
    }

    static void promise20() {
        Run.of(FOUR).due(3, "together", 0, 1).due(3, "together", 1, 0).due(8, "together", 1, 2).due(1, "together", 1, 3)
                .due(0, "together", 0, 3).due(NONE, "together", 1, 1).due(NONE, "together", 4, 0)
                .due(NONE, "together", 0, 4).due(NONE, "together", NONE, 0).due(1340, "period", 0, 99)
                .due(3, "together", 1, 3).due(10, "period", 99, 99).due(0, "together", 0, 1);
    }

    static void promise21() {
        Run.fresh().due(0, "busiest", 0).due(0, "busiest", 1).due(NONE, "busiest", 2).due(NONE, "busiest", NONE);
        Run.of("period 7 9;").due(0, "busiest", 0).due(7, "busiest", 1);
        Run.of("period 7 9;member 9 20 1;").due(1, "busiest", 0).due(9, "busiest", 1);
        Run.of("period 7 9;member 0 8 1;member 8 8 1;").due(2, "busiest", 0).due(8, "busiest", 1);
        Run.of(FOUR).due(3, "busiest", 0).due(12, "busiest", 1).due(435, "period", 15, 30).due(3, "busiest", 0)
                .due(19, "busiest", 1).due(690, "period", 31, 99).due(1, "busiest", 0).due(31, "busiest", 1);
    }

    static void promise22() {
        Run.fresh().due(0, "classes");
        Run.of(Run.members(10)).due(1, "classes");
        Run.of(FOUR).due(2, "classes");
        Run.of(PATH).due(2, "classes");
        Run.of(KITE).due(3, "classes").due(0, "quarrel", 2, 3).due(2, "classes");
        Run all = Run.of(Run.members(10));
        for (int a = 0; a < 10; a++) {
            for (int b = 0; b < a; b++) {
                all.due(1, "quarrel", a, b);
            }
        }
        all.due(10, "classes").due(0, "quarrel", 4, 7).due(9, "classes");
        // A ring of five is three; without one of them two; without all none.
        Run ring = Run.of(Run.members(5));
        for (int a = 0; a < 5; a++) {
            ring.due(1, "quarrel", a, (a + 1) % 5);
        }
        ring.due(3, "classes").due(0, "send").due(1, "days", 1).due(1, "out", 2).due(2, "classes").due(2, "out", 0)
                .due(2, "classes").due(3, "out", 4).due(1, "classes").due(4, "out", 1).due(5, "out", 3).due(0, "classes");
    }

    static void promise23() {
        Run.of(FOUR).due(0, "classOf", 0).due(1, "classOf", 1).due(0, "classOf", 2).due(0, "classOf", 3)
                .due(NONE, "classOf", 4).due(NONE, "classOf", NONE);
        Run.of(PATH).due(0, "classOf", 0).due(1, "classOf", 1).due(1, "classOf", 2).due(0, "classOf", 3);
        Run.of(KITE).due(0, "classOf", 0).due(1, "classOf", 1).due(0, "classOf", 2).due(2, "classOf", 3);
        Run.going().due(1, "out", 0).due(-2, "classOf", 0).due(0, "classOf", 1).due(0, "classOf", 2).due(1, "classOf", 3);
    }

    static void promise24() {
        Run.fresh().due(NONE, "classBits", 0);
        Run.of(FOUR).due(13, "classBits", 0).due(2, "classBits", 1).due(NONE, "classBits", 2).due(NONE, "classBits", NONE)
                .due(NONE, "classBits", BIG);
        Run.of(PATH).due(9, "classBits", 0).due(6, "classBits", 1);
        Run.going().due(1, "out", 0).due(6, "classBits", 0).due(8, "classBits", 1).due(2, "out", 1).due(12, "classBits", 0)
                .due(NONE, "classBits", 1);
    }

    static void promise25() {
        Run.fresh().due(1, "splits", 0).due(0, "splits", 1).due(NONE, "splits", NONE).due(0, "splits", BIG)
                .due(NONE, "splits", LOW);
        int[] ten = {0, 1, 511, 9330, 34105, 42525, 22827, 5880, 750, 45, 1, 0};
        Run t = Run.of(Run.members(10));
        for (int k = 0; k < ten.length; k++) {
            t.due(ten[k], "splits", k);
        }
        Run.of(Run.members(1)).due(0, "splits", 0).due(1, "splits", 1).due(0, "splits", 2);
        Run.of(PATH).due(0, "splits", 0).due(0, "splits", 1).due(1, "splits", 2).due(3, "splits", 3).due(1, "splits", 4)
                .due(0, "splits", 5);
        Run.of(FOUR).due(0, "splits", 1).due(2, "splits", 2).due(4, "splits", 3).due(1, "splits", 4).due(0, "splits", 5);
        Run.going().due(1, "out", 1).due(0, "splits", 0).due(1, "splits", 1).due(3, "splits", 2).due(1, "splits", 3)
                .due(0, "splits", 4);
        Run.going().due(1, "out", 0).due(0, "splits", 1).due(2, "splits", 2).due(1, "splits", 3).due(0, "splits", 4);
    }

    static void promise26() {
        Run.fresh().due(0, "feud");
        Run.of(Run.members(3)).due(1, "feud").due(0, "send").due(1, "days", 1).due(1, "out", 0).due(2, "feud");
        Run.of(FOUR).due(3, "feud");
        Run.of(PATH).due(5, "feud");
        Run.of(KITE).due(14, "feud").due(0, "quarrel", 1, 2).due(3, "feud");
        Run.going().due(1, "out", 1).due(1, "feud").due(2, "out", 0).due(4, "feud").due(1, "quarrel", 2, 3).due(12, "feud");
    }

    static void promise27() {
        Run.fresh().due(-2, "settles");
        Run.of(Run.members(2)).due(-2, "settles").due(1, "quarrel", 0, 1).due(1, "settles");
        Run.of(FOUR).due(-2, "settles");
        Run.of(KITE).due(12, "settles");
        Run.of(Run.members(3)).due(1, "quarrel", 2, 1).due(1, "quarrel", 2, 0).due(1, "quarrel", 0, 1).due(1, "settles")
                .due(0, "send").due(1, "days", 1).due(1, "out", 0).due(12, "settles").due(2, "out", 1).due(-2, "settles");
        // Two feuds of three: none settled alone makes fewer.
        Run.of(Run.members(6)).due(1, "quarrel", 0, 1).due(1, "quarrel", 1, 2).due(1, "quarrel", 2, 0).due(1, "settles")
                .due(1, "quarrel", 3, 4).due(1, "quarrel", 4, 5).due(1, "quarrel", 5, 3).due(-2, "settles");
    }

    static void promise28() {
        Run.fresh().due(NONE, "lead", 0);
        Run.of(FOUR).due(2, "lead", 0).due(1, "lead", 1).due(NONE, "lead", 2).due(NONE, "lead", NONE);
        Run.of(PATH).due(0, "lead", 0).due(1, "lead", 1).due(0, "period", 5, 5).due(0, "lead", 0).due(1, "lead", 1);
        Run.going().due(1, "out", 1).due(2, "lead", 0).due(NONE, "lead", 1);
    }

    static void promise29() {
        Run.fresh().due(0, "costFor", 0).due(NONE, "costFor", 1).due(NONE, "costFor", NONE);
        Run.of(FOUR).due(10, "costFor", 1).due(8, "costFor", 4).due(NONE, "costFor", 0).due(NONE, "costFor", 5)
                .due(NONE, "costFor", 16).due(NONE, "costFor", 20).due(NONE, "costFor", NONE).due(NONE, "costFor", BIG);
        Run.going().due(1, "out", 0).due(10, "costFor", 1);
        // 0, 1, 2, 3, then 3, 2, 1, 0, then 0, 2, 3, 1: what is behind the first one that reaches costs nothing.
        Run.of("channel 1 1;channel 10 1;channel 20 1;channel 40 1;member 0 0 1 by 2;member 0 0 1;")
                .due(31 + 71, "costFor", 27).due(60 + 71, "costFor", 228).due(21 + 71, "costFor", 45)
                .due(NONE, "costFor", 256);
    }

    static void promise30() {
        Run.of(FOUR).due(4, "reachFor", 4, 0).due(1, "reachFor", 4, 1).due(-2, "reachFor", 4, 2).due(1, "reachFor", 4, 3)
                .due(3, "reachFor", 1, 0).due(4, "reachFor", 1, 1).due(-2, "reachFor", 1, 2).due(3, "reachFor", 1, 3)
                .due(NONE, "reachFor", 0, 0).due(NONE, "reachFor", 0, 2).due(NONE, "reachFor", 1, 4)
                .due(NONE, "reachFor", 1, NONE).due(NONE, "reachFor", NONE, 0);
        Run.of("member 0 0 1;").due(-2, "reachFor", 0, 0).due(NONE, "reachFor", 1, 0);
        // It is told from the day of sending on.
        Run.going().due(4, "reachFor", 4, 0);
    }

    static void promise31() {
        Run.fresh().due(NONE, "cheapest", 5, 0);
        Run.of("member 0 0 1;").due(NONE, "cheapest", 5, 1);
        Run.of("channel 7 2;member 0 0 1 by 0;").due(7, "cheapest", 2, 0).due(0, "cheapest", 2, 1).due(-2, "cheapest", 1, 1);
        Run.of(FOUR).due(8, "cheapest", 4, 0).due(4, "cheapest", 4, 1).due(-2, "cheapest", 3, 0).due(-2, "cheapest", 3, 1)
                .due(8, "cheapest", BIG, 0).due(NONE, "cheapest", NONE, 0).due(NONE, "cheapest", 4, 2)
                .due(NONE, "cheapest", 4, NONE).due(NONE, "cheapest", 3, 2);
        // Like COSTS: the least number; none has to be REACHED: 0 days are enough.
        Run.of("channel 3 3;channel 3 3;channel 3 3;member 0 0 1;").due(9, "cheapest", 0, 0).due(6, "cheapest", 0, 1);
        // The cheap CHANNEL first is too slow for MEMBER 1.
        Run.of("channel 1 9;channel 5 2;member 0 0 1 by 0;member 0 0 1 by 1;member 0 0 1 by 0 1;").due(1 + 6 + 1, "cheapest", 11, 0)
                .due(1, "cheapest", 11, 1).due(-2, "cheapest", 10, 0);
        Run.of("channel 1 9;channel 5 2;member 0 0 1 by 1;member 0 0 1 by 0 1;").due(7, "cheapest", 11, 0)
                .due(1, "cheapest", 11, 1).due(10, "cheapest", 10, 0).due(4, "cheapest", 10, 1).due(10, "cheapest", 2, 0)
                .due(-2, "cheapest", 1, 0);
    }

    static void promise32() {
        Run.fresh().due(0, "reachedBy", 0).due(NONE, "reachedBy", NONE).due(0, "reachedBy", 199).due(NONE, "reachedBy", 200);
        Run.of(FOUR).due(0, "reachedBy", 99).due(1, "order", 4).due(2, "days", 2).due(8, "send").due(0, "reachedBy", 2)
                .due(10, "reachedBy", 3).due(10, "reachedBy", 5).due(11, "reachedBy", 6).due(11, "reachedBy", 199);
    }

    static void promise33() {
        Run.fresh().due(0, "fundOf", 0).due(0, "fundOf", 2).due(NONE, "fundOf", 6).due(NONE, "fundOf", NONE);
        Run.of(FOUR).due(900, "fundOf", 0).due(0, "fundOf", 1).due(0, "fundOf", 2).due(900, "fundOf", 3).due(0, "fundOf", 4)
                .due(0, "fundOf", 5);
        Run.going().due(892, "fundOf", 0).due(110, "fundOf", 1).due(1, "fundOf", 2).due(782, "fundOf", 3).due(3, "fundOf", 4)
                .due(3, "fundOf", 5);
        Run.scarce().due(82, "fundOf", 0).due(80, "fundOf", 1).due(1, "fundOf", 2).due(2, "fundOf", 3).due(3, "fundOf", 4)
                .due(0, "fundOf", 5);
        // Of 8 nothing is left behind COSTS; the FEE is cut: 19 less 8 less 1.
        Run.going().due(1, "fundOf", 2).due(1000, "fund", 8).due(0, "fundOf", 0).due(0, "fundOf", 2).due(3, "fundOf", 4).due(8, "fund", 7)
                .due(0, "fundOf", 0).due(7, "fund", 19).due(10, "fundOf", 0);
        // Who is LAZY is COUNTED and has nothing; what it was sent goes on to the others.
        Run.scarce().due(1, "lazy", 1, true).due(70, "fundOf", 1).due(2, "fundOf", 2).due(12, "fundOf", 3).due(3, "fundOf", 4)
                .due(2, "fundOf", 5);
        // Who filed without a CLAIM is not COUNTED; who is OUT neither.
        Run.going().due(0 + 35 + 100 + 120, "period", 15, 24).due(2, "fundOf", 4);
        Run.going().due(1, "out", 3).due(2, "fundOf", 4);
        // A CLAIM of 1 counts; 1 that is lacked is had by ROUND 2, of what the LAZY one leaves.
        Run.of("fund 3;channel 0 1;member 0 0 1 by 0;").due(0, "send").due(1, "days", 1).due(1, "file", 0).due(1, "fundOf", 4)
                .due(1, "fundOf", 1).due(1, "fundOf", 5).due(2, "fundOf", 3).due(100, "share").due(3, "pot", 0)
                .due(1, "needs");
        Run.of("fund 6;channel 0 1;member 0 0 10 by 0;member 0 0 2 by 0;").due(0, "send").due(1, "days", 1).due(1, "file", 0)
                .due(2, "file", 1).due(1, "lazy", 0, true).due(2, "fundOf", 2).due(2, "fundOf", 1).due(4, "fundOf", 3);
        nothingInRoundOneEndsThem();
        Run.manyRounds().due(6, "fundOf", 2).due(9, "fundOf", 1).due(3, "fundOf", 3).due(10, "fundOf", 4).due(0, "fundOf", 5);
    }

    /** MEMBER 1 would be sent 18, below LEAST, and MEMBER 0 is LAZY: nobody has more, so there is no ROUND. */
    private static void nothingInRoundOneEndsThem() {
        Run.of("fund 100;least 20;channel 0 1;member 0 0 90 by 0;member 0 0 20 by 0;member 0 0 30 by 0;").due(0, "send")
                .due(1, "days", 1).due(1, "file", 0).due(2, "file", 1).due(1, "lazy", 0, true).due(0, "fundOf", 2)
                .due(100, "fundOf", 3).due(0, "fundOf", 1)
                // With MEMBER 2, which has 21 of 30 by ROUND 1, there is a second one: 20 for MEMBER 1.
                .due(3, "file", 2).due(2, "fundOf", 2).due(41, "fundOf", 1).due(59, "fundOf", 3).due(1, "fundOf", 5);
    }

    static void promise34() {
        Run.fresh().due(NONE, "pot", 0);
        Run.of(FOUR).due(0, "pot", 0).due(0, "pot", 1).due(NONE, "pot", 2).due(NONE, "pot", NONE);
        Run.going().due(567, "pot", 0).due(324, "pot", 1).due(NONE, "pot", 2);
        Run.scarce().due(52, "pot", 0).due(29, "pot", 1).due(0, "rule", 1).due(54, "pot", 0).due(27, "pot", 1)
                .due(1, "rule", 2).due(41, "pot", 0).due(41, "pot", 1).due(1, "out", 1).due(82, "pot", 0)
                .due(NONE, "pot", 1);
        // A SUB-CLASS without a COUNTED one has none, by each RULE.
        Run t = Run.of(FOUR).due(10, "send").due(3, "days", 3).due(1, "file", 0).due(890, "pot", 0).due(0, "pot", 1)
                .due(0, "rule", 1).due(890, "pot", 0).due(0, "pot", 1).due(1, "rule", 2).due(890, "pot", 0);
        t.due(0, "pot", 1);
        // More than 2147483647 on the way.
        Run.of("fund 99999;channel 0 1;member 0 99 99 by 0;member 0 99 99 by 0;member 0 98 99 by 0;conflict 0 1;conflict 0 2;")
                .due(0, "send").due(1, "days", 1).due(1, "file", 0).due(2, "file", 1).due(3, "file", 2)
                .due(33444, "pot", 0).due(66554, "pot", 1);
    }

    static void promise35() {
        Run.going().due(50, "paid", 0).due(40, "paid", 1).due(0, "paid", 2).due(20, "paid", 3).due(NONE, "paid", 4)
                .due(NONE, "paid", NONE);
        Run.scarce().due(37, "paid", 0).due(29, "paid", 1).due(0, "paid", 2).due(14, "paid", 3).due(1, "lazy", 1, true)
                .due(50, "paid", 0).due(0, "paid", 1).due(20, "paid", 3).due(1, "lazy", 1, false).due(0, "rule", 1)
                .due(38, "paid", 0).due(27, "paid", 1).due(15, "paid", 3).due(1, "rule", 2).due(29, "paid", 0)
                .due(40, "paid", 1).due(11, "paid", 3).due(1, "out", 0).due(0, "paid", 0);
        // NET 25, POTS 15 and 9; MEMBER 3 would be sent 4, below LEAST; so would all of what is LEFT.
        Run.going().due(1000, "fund", 36).due(10, "paid", 0).due(9, "paid", 1).due(0, "paid", 3).due(6, "fundOf", 3);
        // NET 29, POT 18: 5 is not below LEAST.
        Run.going().due(1000, "fund", 41).due(12, "paid", 0).due(10, "paid", 1).due(5, "paid", 3);
    }

    static void promise36() {
        Run.scarce().due(37, "had", 0, 1).due(0, "had", 0, 2).due(0, "had", 0, 9).due(NONE, "had", 0, 0)
                .due(NONE, "had", 0, 10).due(NONE, "had", 4, 1).due(NONE, "had", NONE, 1).due(NONE, "had", 0, LOW)
                .due(0, "had", 2, 1).due(1, "lazy", 1, true).due(37, "had", 0, 1).due(13, "had", 0, 2).due(14, "had", 3, 1)
                .due(6, "had", 3, 2).due(0, "had", 0, 3).due(0, "had", 1, 1);
        Run.manyRounds().due(3, "had", 0, 1).due(2, "had", 0, 2).due(1, "had", 0, 3).due(1, "had", 0, 4).due(1, "had", 0, 5)
                .due(1, "had", 0, 6).due(0, "had", 0, 7).due(0, "had", 1, 1).due(0, "had", 9, 6);
    }

    static void promise37() {
        Run.fresh().due(-2, "share");
        Run.of(FOUR).due(-2, "share");
        Run.going().due(100, "share").due(1000, "fund", 0).due(0, "share");
        Run.scarce().due(72, "share").due(1, "lazy", 1, true).due(63, "share");
    }

    static void promise38() {
        Run.fresh().due(-2, "votes", 0).due(NONE, "votes", NONE).due(NONE, "votes", 101);
        Run.going().due(1, "votes", 100).due(1000, "fund", 0).due(1, "votes", 0).due(0, "votes", 1);
        Run.scarce().due(1, "votes", 70).due(1, "votes", 72).due(0, "votes", 73).due(0, "votes", 74).due(0, "votes", 100)
                .due(NONE, "votes", 101).due(NONE, "votes", NONE);
        // Just half is not more than half.
        Run.of("fund 9;channel 0 1;member 0 0 9 by 0;member 0 0 9 by 0;conflict 0 1;").due(0, "send").due(1, "days", 1)
                .due(1, "file", 0).due(2, "file", 1).due(1, "lazy", 0, true).due(0, "votes", 1).due(1, "votes", 0);
    }

    static void promise39() {
        Run.scarce().due(0, "wereOut", 0, 0).due(50, "wereOut", 0, 1).due(37, "wereOut", 0, 2).due(45, "wereOut", 0, 3)
                .due(40, "wereOut", 1, 0).due(36, "wereOut", 1, 3).due(0, "wereOut", 2, 0).due(NONE, "wereOut", 4, 0)
                .due(NONE, "wereOut", 0, 4).due(NONE, "wereOut", NONE, 0).due(NONE, "wereOut", 0, NONE)
                .due(0, "count", 9).due(37, "paid", 0).due(1, "out", 1).due(50, "wereOut", 0, 1).due(0, "wereOut", 1, 0);
    }

    static void promise40() {
        Run.going().due(37, "wereFund", 100, 0).due(29, "wereFund", 100, 1).due(0, "wereFund", 0, 0)
                .due(50, "wereFund", 99999, 0).due(NONE, "wereFund", 100000, 0).due(NONE, "wereFund", NONE, 0)
                .due(NONE, "wereFund", 100, 4).due(NONE, "wereFund", 100, NONE).due(1000, "count", 4).due(50, "paid", 0);
    }

    static void promise41() {
        Run.scarce().due(37, "wereRule", 0, 0).due(38, "wereRule", 1, 0).due(29, "wereRule", 2, 0).due(40, "wereRule", 2, 1)
                .due(15, "wereRule", 1, 3).due(NONE, "wereRule", 3, 0).due(NONE, "wereRule", NONE, 0)
                .due(NONE, "wereRule", 0, 4).due(NONE, "wereRule", 0, NONE).due(0, "count", 5).due(37, "paid", 0);
    }

    static void promise42() {
        Run.fresh().due(NONE, "ruleFor", 0);
        Run.scarce().due(1, "ruleFor", 0).due(2, "ruleFor", 1).due(0, "ruleFor", 2).due(1, "ruleFor", 3)
                .due(NONE, "ruleFor", 4).due(NONE, "ruleFor", NONE).due(0, "rule", 2).due(1, "ruleFor", 0);
        Run.going().due(0, "ruleFor", 0).due(0, "rule", 2).due(0, "ruleFor", 0);
    }

    static void promise43() {
        Run.scarce().due(1, "leaver", 0).due(0, "leaver", 1).due(-2, "leaver", 2).due(0, "leaver", 3).due(NONE, "leaver", 4)
                .due(NONE, "leaver", NONE).due(1, "out", 1).due(-2, "leaver", 0).due(-2, "leaver", 1);
        Run.going().due(-2, "leaver", 0);
    }

    static void promise44() {
        Run.fresh().due(0, "alone", 0).due(NONE, "alone", 1).due(NONE, "alone", NONE);
        Run.scarce().due(0, "alone", 0).due(70, "alone", 9).due(40, "alone", 2).due(80, "alone", 15).due(80, "alone", 11)
                .due(0, "alone", 4).due(NONE, "alone", 16).due(NONE, "alone", NONE).due(NONE, "alone", LOW)
                .due(0, "count", 9).due(1, "out", 1).due(70, "alone", 15).due(0, "alone", 2).due(20, "alone", 10);
    }

    static void promise45() {
        Run.fresh().due(0, "needs");
        Run.of(FOUR).due(0, "needs");
        Run.going().due(131, "needs").due(0, "rule", 2).due(131, "needs").due(2, "rule", 0).due(131, "needs");
        Run.scarce().due(131, "needs").due(1, "lazy", 0, true).due(1, "lazy", 1, true).due(1, "lazy", 3, true).due(0, "needs");
        // By RULE 2 MEMBER 3 lacks 5 behind ROUND 1, below a LEAST of 6, till its POT is 70.
        Run.of(FOUR.replace("least 5", "least 6")).due(1, "order", 4).due(8, "send").due(4, "days", 4).due(1, "file", 0)
                .due(2, "file", 1).due(3, "file", 3).due(131, "needs").due(0, "rule", 2).due(164, "needs");
        // Its CLAIM is below LEAST; then CLAIMS are above each FUND.
        Run.of("least 10;channel 0 1;member 0 0 9 by 0;").due(0, "send").due(1, "days", 1).due(1, "file", 0).due(-2, "needs");
        Run.of("fee 50;channel 0 1;" + "member 0 99 99 by 0;".repeat(10)).due(0, "send").due(1, "days", 1).due(1, "file", 0)
                .due(19799, "needs").due(2, "file", 1).due(3, "file", 2).due(4, "file", 3).due(5, "file", 4)
                .due(98999, "needs").due(6, "file", 5).due(-2, "needs");
        // The greatest FUND, and a CLAIM that is just LEAST.
        Run all = Run.of("fee 1;channel 0 1;" + "member 0 99 99 by 0;".repeat(10)).due(0, "send").due(1, "days", 1);
        for (int i = 0; i < 10; i++) {
            all.due(i + 1, "file", i);
        }
        all.due(99999, "needs");
        Run.of("least 9;channel 0 1;member 0 0 9 by 0;").due(0, "send").due(1, "days", 1).due(1, "file", 0).due(9, "needs");
        besideALazyOne("least 0;", 97, 3).due(34, "needs");
        besideALazyOne("least 1;", 97, 3).due(34, "needs");
        // Sent 2 of 3 by a NET of 62 it would lack 1, below LEAST, for good.
        besideALazyOne("least 2;", 90, 3).due(93, "needs");
        // ROUND 1 sends MEMBER 1 nothing, till it is sent 20 of 30 beside the LAZY one's 90.
        besideALazyOne("least 20;", 90, 30).due(120, "needs");
        besideALazyOne("least 10;", 90, 30).due(40, "needs");
    }

    private static Run besideALazyOne(String text, int lazyClaim, int claim) {
        return Run.of(text + "channel 0 1;member 0 0 " + lazyClaim + " by 0;member 0 0 " + claim + " by 0;").due(0, "send")
                .due(1, "days", 1).due(1, "file", 0).due(2, "file", 1).due(1, "lazy", 0, true);
    }

    static void promise46() {
        Run.fresh().due(1, "rests", 0, 0, NONE).due(0, "rests", 0, 0, 0).due(-2, "rests", 0, 0, 1);
        // Both in: 60 each; one alone: 100.
        Run t = Run.of("fund 120;member 0 9 10;member 0 9 10;");
        t.due(1, "rests", 50, 0, NONE).due(0, "rests", 50, 0, 0).due(-2, "rests", 50, 0, 1);
        t.due(3, "rests", 60, 0, NONE).due(0, "rests", 60, 0, 0).due(1, "rests", 60, 0, 1).due(2, "rests", 60, 0, 2)
                .due(-2, "rests", 60, 0, 3).due(-2, "rests", 60, 0, BIG);
        t.due(3, "rests", 70, 10, NONE).due(2, "rests", 80, 0, NONE).due(1, "rests", 80, 0, 0).due(2, "rests", 80, 0, 1)
                .due(-2, "rests", 80, 0, 2).due(1, "rests", 100, 999, NONE).due(0, "rests", 0, 0, 0);
        t.due(NONE, "rests", 101, 0, 0).due(NONE, "rests", NONE, 0, 0).due(NONE, "rests", 0, NONE, 0)
                .due(NONE, "rests", 0, 1000, 0).due(NONE, "rests", 0, 0, -2).due(NONE, "rests", 101, 0, BIG);
        // Asked again behind an ACT, and behind what took it back.
        t.due(2, "rests", 80, 0, NONE).due(120, "fund", 160).due(3, "rests", 80, 0, NONE).due(0, "undo");
        t.due(2, "rests", 80, 0, NONE).due(1, "lazy", 0, true).due(2, "rests", 80, 0, NONE).due(0, "count", 10);
        t.dueTold(1, "fund 5;member 0 9 10;").due(1, "rests", 80, 0, NONE).due(1, "rests", 80, 0, 0);
        // Without a FUND and without odds each set rests.
        Run.of("member 0 0 1;member 0 0 1;member 0 0 1;").due(8, "rests", 100, 1, NONE).due(5, "rests", 100, 1, 5)
                .due(1, "rests", 100, 0, NONE).due(7, "rests", 100, 0, 0);
        // Who is OUT now may come in.
        Run.going().due(1, "out", 0).due(1, "rests", 0, 0, NONE).due(0, "rests", 0, 0, 0);
    }

    static void promise47() {
        Run.fresh().due(0, "sample", 5, 0).due(NONE, "sample", 5, 1).due(NONE, "sample", 5, NONE);
        Run.of(FOUR).due(0, "sample", 1, 0).due(4, "sample", 1, 1).due(5, "sample", 1, 2).due(13, "sample", 1, 3)
                .due(15, "sample", 1, 4).due(NONE, "sample", 1, 5).due(NONE, "sample", 1, NONE)
                .due(15, "sample", LOW, 4);
        // By seed 0 the numbers are 0, then 54236 (2 modulo 9), then one that is 4 modulo 8.
        Run.of(Run.members(10)).due(1, "sample", 0, 1).due(1 + 8, "sample", 0, 2).due(1 + 8 + 64, "sample", 0, 3);
    }

    static void promise48() {
        Run.fresh().due(NONE, "estimate", 0).due(NONE, "estimate", 1);
        Run.of(FOUR).due(200, "estimate", 1).due(180, "estimate", 3).due(146, "estimate", 11).due(210, "estimate", 15)
                .due(NONE, "estimate", 0).due(NONE, "estimate", 16).due(NONE, "estimate", NONE).due(NONE, "estimate", LOW);
        Run.going().due(1, "out", 0).due(200, "estimate", 1);
    }

    static void promise49() {
        Run.fresh().due(NONE, "nearest", 1, 0).due(NONE, "nearest", 0, 0);
        Run.of(FOUR).due(10, "nearest", 1, 0).due(1, "nearest", 1, 1).due(30, "nearest", 2, 0).due(3, "nearest", 2, 1)
                .due(3, "nearest", 3, 0).due(14, "nearest", 3, 1).due(0, "nearest", 4, 0).due(15, "nearest", 4, 1)
                .due(NONE, "nearest", 0, 0).due(NONE, "nearest", 5, 0).due(NONE, "nearest", 1, 2)
                .due(NONE, "nearest", 1, NONE).due(NONE, "nearest", NONE, 1);
    }

    static void promise50() {
        Run.fresh().due(NONE, "within", 1, 0).due(NONE, "within", 0, 0);
        Run.of(FOUR).due(0, "within", 1, 4).due(1, "within", 1, 5).due(1, "within", 1, 23).due(2, "within", 1, 24)
                .due(4, "within", 1, 100).due(1, "within", 4, 0).due(2, "within", 2, 15).due(6, "within", 2, 43)
                .due(NONE, "within", 0, 5).due(NONE, "within", 5, 5).due(NONE, "within", 1, NONE)
                .due(NONE, "within", 1, 101).due(10, "period", 99, 99).due(0, "within", 1, 99).due(3, "within", 1, 100);
        // Off by just so many hundredths counts: CLAIMS 1 and 3, off by 2 of 4.
        Run.of("member 0 0 1;member 0 0 3;").due(0, "within", 1, 49).due(2, "within", 1, 50).due(0, "period", 1, 1)
                .due(2, "within", 1, 0);
    }

    static void promise51() {
        Run.fresh().dueText("fund 0;fee 0;least 0;till 99;period 0 99;", "spell").due(NONE, "spell", -2).due(NONE, "spell", LOW);
        Run.of(FOUR).dueText("fund 1000;fee 10;least 5;till 9;period 10 19;channel 2 3;channel 1 1;member 10 14 10 by 0;"
                + "member 12 21 5 by 1;member 0 99 10;member 19 30 20 by 0 1;conflict 0 1;conflict 1 3;", "spell");
        Run.going().due(1000, "fund", 99999).due(1340, "period", 0, 99).due(0, "quarrel", 0, 1).due(1, "quarrel", 3, 2)
                .dueText("fund 99999;fee 10;least 5;till 9;period 0 99;channel 2 3;channel 1 1;member 10 14 10 by 0;"
                        + "member 12 21 5 by 1;member 0 99 10;member 19 30 20 by 0 1;conflict 1 3;conflict 2 3;", "spell");
        Run all = Run.of("channel 99 30;".repeat(4) + "member 99 99 99 by 0 1 2 3;".repeat(10));
        for (int a = 0; a < 10; a++) {
            for (int b = 0; b < a; b++) {
                all.due(1, "quarrel", a, b);
            }
        }
        all.due(41 + 56 + 270 + 585, "spell", NONE).due(';', "spell", 951).due('9', "spell", 950).due(-2, "spell", 952);
    }

    static void promise52() {
        Run.fresh().dueText("next 0;", "report").due(NONE, "report", -2);
        Run.of(FOUR).dueText("next 900;", "report");
        Run.scarce().dueText("paid 0 37;paid 1 29;paid 3 14;next 2;", "report").due(1, "lazy", 1, true)
                .dueText("paid 0 50;paid 1 0;paid 3 20;next 12;", "report").due(1, "out", 0)
                .dueText("paid 1 0;paid 3 20;next 62;", "report");
    }

    static void promise53() {
        Run t = Run.scarce().due(0, "rule", 1).due(1, "lazy", 2, true).due(1, "out", 3);
        t.put("xyz");
        int[] counts = {4, 2, 2, 4, 100, 1, 8, 0, 4, 8, 11, 4, 210, 10, 3, 13};
        for (int what = 0; what < counts.length; what++) {
            t.due(counts[what], "count", what);
        }
        t.due(NONE, "count", 16).due(NONE, "count", NONE).due(NONE, "count", BIG);
        Run.of(FOUR).due(-2, "count", 7).due(0, "count", 6);
    }
}
