/** The boundaries in Terms 2 and promises 8 to 18: who stands, what he pays, replies and rests. */
public final class BoundariesOfBidsTest {
    private static final int LOW = Sentences.LOW;
    private static final int HIGH = Sentences.HIGH;
    private static final int[] NO_SALES = {-1, -2, 1, 2, 3, LOW, HIGH};
    private static final int NOTHING = -100000;

    private static Sentences s;

    public static void main(String[] args) throws Exception {
        s = new Sentences();
        bid();
        rule();
        order();
        stands();
        payOwn();
        payNext();
        payHarm();
        gain();
        take();
        rather();
        reply();
        replyOfSeveral();
        restless();
        turns();
        turnsByForty();
        replies();
        rests();
        rest();
        s.finish();
    }

    private static void duePays(String when, RoadBoards x, int... pays) {
        for (int i = 0; i < pays.length; i++) s.due(when + ": pay(0, " + i + ", false)", x.pay(0, i, false), pays[i]);
    }

    private static void bid() {
        s.says("Promise 8", "BID from now on: true; false: there is none such (of either), or another number.");
        RoadBoards x = s.with("board 3;bidder 5 5;bidder 5 4;");
        for (int n : new int[] {0, 1, 98, 99}) {
            s.due("bid(0, 1, " + n + ")", x.bid(0, 1, n), true);
            s.due("about(0, 31)", x.about(0, 31), n);
        }
        for (int n : new int[] {-1, 100, 101, LOW, HIGH, 256}) {
            s.due("bid(0, 1, " + n + ")", x.bid(0, 1, n), false);
            s.due("BID is as it was", x.about(0, 31), 99);
        }
        for (int i : new int[] {-1, 2, 6, 7, LOW, HIGH}) s.due("bid(0, " + i + ", 1)", x.bid(0, i, 1), false);
        for (int n : NO_SALES) s.due("bid(" + n + ", 0, 1)", x.bid(n, 0, 1), false);
        s.due("BID is as it was", x.about(0, 30), 5);
        s.due("BID is as it was", x.about(0, 31), 99);
        s.due("VALUE is as it was", x.about(0, 21), 5);
        RoadBoards y = s.with("board 3;" + "bidder 5 5;".repeat(7));
        s.due("bid(0, 6, 9)", y.bid(0, 6, 9), true);
        s.due("about(0, 36)", y.about(0, 36), 9);
        s.due("bid(0, 7, 9)", y.bid(0, 7, 9), false);
    }

    private static void rule() {
        s.says("Promise 9", "WAY and BAR from now on: true; false: there is no such SALE, or other numbers.");
        RoadBoards x = s.with("board 3;bidder 5 5;");
        for (int way = 0; way < 3; way++) {
            for (int bar : new int[] {99, 1, 0}) {
                s.due("rule(0, " + way + ", " + bar + ")", x.rule(0, way, bar), true);
                s.due("WAY", x.about(0, 2), way);
                s.due("BAR", x.about(0, 3), bar);
            }
        }
        int[][] wrong = {{-1, 5}, {3, 5}, {LOW, 5}, {HIGH, 5}, {1, -1}, {1, 100}, {1, LOW}, {1, HIGH}, {3, 100}, {-1, -1}};
        for (int[] w : wrong) {
            s.due("rule(0, " + w[0] + ", " + w[1] + ")", x.rule(0, w[0], w[1]), false);
            s.due("WAY is as it was", x.about(0, 2), 2);
            s.due("BAR is as it was", x.about(0, 3), 0);
        }
        for (int n : NO_SALES) s.due("rule(" + n + ", 0, 5)", x.rule(n, 0, 5), false);
        s.due("WAY is as it was", x.about(0, 2), 2);
    }

    private static void order() {
        s.says("Terms 2", "ORDER: BIDDERS whose BID is BAR at least and above 0");
        RoadBoards x = s.with("board 9;board 9;board 9;bidder 9 5;bidder 9 4;bidder 9 6;bar 5;");
        s.dueStands("BAR 5", x, 2, 0, -1);
        x.rule(0, 1, 6);
        s.dueStands("BAR 6", x, 2, -1, -1);
        x.rule(0, 1, 7);
        s.dueStands("BAR 7", x, -1, -1, -1);
        x.rule(0, 1, 4);
        s.dueStands("BAR 4", x, 2, 0, 1);
        x.rule(0, 1, 99);
        x.bid(0, 0, 99);
        x.bid(0, 1, 98);
        s.dueStands("BAR 99", x, 0, -1, -1);
        x.rule(0, 1, 0);
        x.bid(0, 1, 0);
        s.dueStands("BAR 0, a BID of 0", x, 0, 2, -1);
        x.bid(0, 1, 1);
        s.dueStands("BAR 0, a BID of 1", x, 0, 2, 1);
        RoadBoards y = s.with("board 9;bidder 9 4;bidder 9 5;mark 0 9;bar 5;");
        s.dueStands("BID, not SCORE", y, 1);
        s.says("Terms 2", "by SCORES, the greatest first, of alike ones the least BIDDER first");
        RoadBoards z = s.with("board 3;board 2;board 1;bidder 1 6;bidder 1 2;bidder 1 3;mark 1 3;mark 2 2;");
        s.dueStands("6, 6 and 6", z, 0, 1, 2);
        z.bid(0, 2, 4);
        s.dueStands("6, 6 and 8", z, 2, 0, 1);
        z.bid(0, 0, 5);
        s.dueStands("5, 6 and 8", z, 2, 1, 0);
        z.bid(0, 0, 7);
        s.dueStands("7, 6 and 8", z, 2, 0, 1);
        z.bid(0, 0, 8);
        s.dueStands("8, 6 and 8", z, 0, 2, 1);
        RoadBoards seven = s.with("board 1;".repeat(6) + "bidder 1 1;".repeat(7));
        s.dueStands("seven alike", seven, 0, 1, 2, 3, 4, 5);
        seven.bid(0, 6, 2);
        s.dueStands("the last one more", seven, 6, 0, 1, 2, 3, 4);
        RoadBoards most = s.with("board 1;bidder 1 99;bidder 1 99;mark 0 8;mark 1 9;");
        s.dueStands("792 and 891", most, 1);
        s.says("Terms 2", "the next one on BOARD 1, and so on, as many as there are BOARDS");
        RoadBoards few = s.with("board 1;bidder 1 3;bidder 1 2;");
        s.dueStands("one BOARD", few, 0, -1, -1);
        s.due("he has none", few.pay(0, 1, false), 0);
        RoadBoards many = s.with("board 1;".repeat(6) + "bidder 1 3;bidder 1 4;");
        s.dueStands("six BOARDS", many, 1, 0, -1, -1, -1, -1, -1);
    }

    private static void stands() {
        s.says("Promise 10", "Who stands on a BOARD. NONE: nobody, or there is none such (of either).");
        RoadBoards x = s.with("board 3;board 2;board 1;bidder 5 5;bidder 5 4;");
        s.dueStands("two on three", x, 0, 1, -1, -1);
        for (int j : new int[] {-1, 3, 4, 6, LOW, HIGH}) s.due("stands(0, " + j + ")", x.stands(0, j), -1);
        for (int n : NO_SALES) s.due("stands(" + n + ", 0)", x.stands(n, 0), -1);
        x.bid(0, 0, 0);
        x.bid(0, 1, 0);
        s.dueStands("nobody bids", x, -1, -1, -1);
        RoadBoards y = s.with("board 1;bidder 5 5;bidder 5 4;");
        s.due("there is no BOARD 1", y.stands(0, 1), -1);
    }

    private static void payOwn() {
        s.says("Terms 2", "own: BID * PASS.");
        RoadBoards x = s.with("board 99;board 0;bidder 0 99;bidder 9 98;way own;");
        duePays("99 of 99; 98 of 0", x, 9801, 0);
        x.rule(0, 0, 98);
        duePays("a BAR below asks no more", x, 9801, 0);
        x.bid(0, 0, 1);
        x.rule(0, 0, 0);
        duePays("0 stands second", x, 0, 98 * 99);
        RoadBoards y = s.with("board 9;board 5;board 1;bidder 9 2;bidder 9 3;bidder 9 4;way own;");
        duePays("each his own BID", y, 2, 15, 36);
    }

    private static void payNext() {
        s.says("Terms 2", "next: PASS * the least whole number, BAR and 1 at least");
        RoadBoards x = s.with("board 10;bidder 9 9;bidder 9 0;");
        duePays("nobody behind", x, 10, 0);
        int[] bars = {1, 2, 8, 9};
        for (int bar : bars) {
            x.rule(0, 1, bar);
            duePays("BAR " + bar, x, 10 * bar, 0);
        }
        x.bid(0, 1, 3);
        for (int bar = 0; bar <= 5; bar++) {
            x.rule(0, 1, bar);
            duePays("3 behind, BAR " + bar, x, 10 * Math.max(3, bar), 0);
        }
        x.rule(0, 1, 0);
        x.bid(0, 1, 9);
        duePays("as much behind", x, 90, 0);
        RoadBoards nobody = s.with("board 0;bidder 9 9;bidder 9 8;bar 7;");
        duePays("a PASS of 0", nobody, 0, 0);
        s.says("Terms 2", "that times his MARK is at least the SCORE of the next one of ORDER (0 without)");
        RoadBoards y = s.with("board 10;bidder 9 5;bidder 9 9;mark 0 3;");
        int[][] asked = {{8, 3}, {9, 3}, {10, 4}, {12, 4}, {13, 5}, {15, 5}, {1, 1}, {3, 1}, {4, 2}, {0, 1}};
        for (int[] a : asked) {
            y.bid(0, 1, a[0]);
            duePays(a[0] + " behind, MARK 3", y, 10 * a[1], 0);
        }
        y.rule(0, 1, 4);
        y.bid(0, 1, 9);
        duePays("9 behind, MARK 3, BAR 4", y, 40, 0);
        y.bid(0, 1, 13);
        duePays("13 behind, MARK 3, BAR 4", y, 50, 0);
        y.rule(0, 1, 5);
        y.bid(0, 1, 4);
        duePays("not in ORDER", y, 50, 0);
        RoadBoards z = s.with("board 9;board 1;bidder 9 9;bidder 9 8;bidder 9 4;mark 2 2;mark 1 9;");
        // SCORES 72 of 1, 9 of 0, 8 of 2, who stands nowhere but is the next one.
        duePays("the next one stands nowhere", z, 8, 9, 0);
        z.bid(0, 0, 0);
        duePays("the last one on the last BOARD", z, 0, 9, 1);
    }

    private static void payHarm() {
        s.says("Terms 2", "harm: the least whole number, BAR * PASS at least, that times his MARK is at least the sum");
        RoadBoards x = s.with("board 10;board 4;bidder 9 9;bidder 9 5;bidder 9 3;way harm;");
        duePays("6 * 5 + 4 * 3; 4 * 3", x, 42, 12, 0);
        int[][] bars = {{2, 42, 12}, {3, 42, 12}, {4, 40, 16}, {5, 50, 20}, {6, 60, 0}, {9, 90, 0}};
        for (int[] b : bars) {
            x.rule(0, 2, b[0]);
            duePays("BAR " + b[0], x, b[1], b[2], 0);
        }
        RoadBoards y = s.with("board 7;board 4;bidder 9 9;bidder 9 5;bidder 9 3;way harm;mark 0 2;");
        // 3 * 5 + 4 * 3 = 27.
        duePays("27 by 2", y, 14, 12, 0);
        int[][] marks = {{1, 27}, {3, 9}, {4, 7}, {5, 6}, {8, 4}, {9, 3}};
        for (int[] m : marks) {
            RoadBoards w = s.with("board 7;board 4;bidder 9 9;bidder 9 5;bidder 9 3;way harm;mark 0 " + m[0] + ";");
            duePays("27 by " + m[0], w, m[1], 12, 0);
        }
        s.says("Terms 2", "(PASS of k less that of k + 1, 0 behind the last) * the SCORE of the one of ORDER behind the k-th (from 0 on; 0 without)");
        RoadBoards one = s.with("board 10;bidder 9 9;bidder 9 5;bidder 9 3;way harm;");
        duePays("all of the last BOARD", one, 50, 0, 0);
        one.bid(0, 1, 0);
        duePays("3 is the next one", one, 30, 0, 0);
        one.bid(0, 2, 0);
        duePays("nobody behind", one, 0, 0, 0);
        RoadBoards same = s.with("board 4;board 4;bidder 9 9;bidder 9 5;bidder 9 3;way harm;");
        duePays("0 * 5 + 4 * 3", same, 12, 12, 0);
        same.bid(0, 2, 0);
        duePays("two of two", same, 0, 0, 0);
        RoadBoards six = s.with("board 99;board 9;board 8;board 7;board 6;board 5;" + "bidder 9 9;".repeat(7) + "way harm;");
        duePays("seven of nine", six, 891, 81, 72, 63, 54, 45, 0);
        six.bid(0, 6, 0);
        duePays("six of nine", six, 94 * 9, 36, 27, 18, 9, 0, 0);
    }

    private static void gain() {
        s.says("Terms 2", "GAIN: WORTH less PAY; 0 without a BOARD.");
        RoadBoards x = s.with("board 99;bidder 0 99;bidder 99 98;way own;extra 0 0 less 999;");
        s.due("a WORTH of 0 at least", x.pay(0, 0, true), -9801);
        s.due("without a BOARD", x.pay(0, 1, true), 0);
        x.bid(0, 0, 0);
        s.due("does not bid", x.pay(0, 0, true), 0);
        s.due("99 * 99 less 98 * 99", x.pay(0, 1, true), 99);
        x.bid(0, 1, 99);
        s.due("nothing is left", x.pay(0, 1, true), 0);
        RoadBoards y = s.with("board 99;bidder 99 1;extra 0 0 more 999;way harm;");
        s.due("most of all", y.pay(0, 0, true), 10800);
        s.says("Promise 11", "PAY (0 without a BOARD), or (gain) GAIN. -100000: there is none such (of either).");
        s.due("PAY without a BOARD", x.pay(0, 0, false), 0);
        for (boolean gain : new boolean[] {false, true}) {
            for (int i : new int[] {-1, 2, 6, 7, LOW, HIGH}) s.due("pay(0, " + i + ")", x.pay(0, i, gain), NOTHING);
            for (int n : NO_SALES) s.due("pay(" + n + ", 0)", x.pay(n, 0, gain), NOTHING);
        }
    }

    private static void take() {
        s.says("Terms 2", "TAKE: all PAYS.");
        RoadBoards x = s.with("board 99;board 99;board 99;board 99;board 99;board 99;" + "bidder 0 99;".repeat(7) + "way own;");
        for (int way = 0; way < 3; way++) {
            x.rule(0, way, 0);
            s.due("six of 9801 by WAY " + way, x.take(0), 58806);
        }
        for (int i = 0; i < 7; i++) x.bid(0, i, 0);
        s.due("nobody bids", x.take(0), 0);
        x.bid(0, 6, 1);
        s.due("one alone by harm", x.take(0), 0);
        x.rule(0, 2, 1);
        s.due("one alone by harm, BAR 1", x.take(0), 99);
        x.rule(0, 1, 0);
        s.due("one alone by next", x.take(0), 99);
        x.rule(0, 1, 2);
        s.due("one alone below the BAR", x.take(0), 0);
        s.says("Promise 12", "TAKE. NONE: there is none such.");
        for (int n : NO_SALES) s.due("take(" + n + ")", x.take(n), -1);
    }

    private static void dueRather(String when, RoadBoards x, int bidder, int board) {
        s.due(when + ": rather(0, false)", x.rather(0, false), bidder);
        s.due(when + ": rather(0, true)", x.rather(0, true), board);
    }

    private static void rather() {
        s.says("Terms 2", "at the PAY of who stands there (nothing, where nobody does)");
        RoadBoards x = s.with("board 5;board 5;bidder 3 1;");
        dueRather("5 paid, or nothing", x, 0, 1);
        x.rule(0, 1, 2);
        dueRather("below the BAR: BOARD 0 for nothing", x, 0, 0);
        s.says("Terms 2", "its WORTH less that PAY is above his GAIN");
        x.rule(0, 2, 0);
        dueRather("nothing paid, or nothing", x, -1, -1);
        RoadBoards y = s.with("board 5;bidder 3 3;bidder 3 2;way own;");
        dueRather("15 for 15", y, -1, -1);
        RoadBoards z = s.with("board 5;bidder 3 3;bidder 3 2;way own;extra 1 0 more 1;");
        dueRather("16 for 15", z, 1, 0);
        RoadBoards w = s.with("board 5;board 5;bidder 9 3;bidder 9 2;way own;");
        dueRather("15 or 10", w, 0, 1);
        w.bid(0, 0, 2);
        dueRather("10 or 10", w, -1, -1);
        RoadBoards v = s.with("board 5;bidder 0 3;way own;");
        dueRather("a GAIN below 0, and no other BOARD", v, -1, -1);
        s.says("Terms 2", "RATHER: the first BIDDER, and for him the first BOARD, that he would rather have");
        RoadBoards u = s.with("board 5;board 5;board 5;bidder 3 3;bidder 3 0;way own;extra 0 2 more 9;");
        dueRather("BOARD 2 is still better", u, 0, 1);
        u.bid(0, 0, 0);
        dueRather("nobody stands", u, 0, 0);
        RoadBoards last = s.with("board 1;board 1;board 1;board 1;board 1;board 1;" + "bidder 9 1;".repeat(7) + "way own;extra 6 5 more 1;");
        // 1 paid of each, a gain of 8: only 6, who stands nowhere, would rather; then BOARD 0 first.
        dueRather("the last BIDDER", last, 6, 0);
        last.bid(0, 6, 0);
        dueRather("who does not bid", last, 6, 0);
        RoadBoards nobody = s.with("board 1;board 1;board 1;board 1;board 1;board 1;" + "bidder 1 1;".repeat(7) + "way own;");
        dueRather("none of seven", nobody, -1, -1);
        s.says("Promise 13", "RATHER, or (board) the BOARD. NONE: there is none such.");
        for (int n : NO_SALES) {
            s.due("rather(" + n + ", false)", u.rather(n, false), -1);
            s.due("rather(" + n + ", true)", u.rather(n, true), -1);
        }
    }

    private static void reply() {
        s.says("Terms 2", "REPLY of a BIDDER: of BIDS 0 .. 99, all others as they are, that of the greatest GAIN");
        RoadBoards x = s.with("board 1;bidder 0 98;bidder 0 0;extra 1 0 more 999;");
        s.due("98 of a lesser one", x.reply(0, 1), 99);
        x.bid(0, 0, 99);
        s.due("99 of a lesser one", x.reply(0, 1), 0);
        x.bid(0, 1, 99);
        s.due("99 of a lesser one, his own BID is nothing", x.reply(0, 1), 0);
        RoadBoards y = s.with("board 1;bidder 0 0;bidder 0 99;extra 0 0 more 999;");
        s.due("99 of a greater one", y.reply(0, 0), 99);
        y.rule(0, 1, 99);
        s.due("BAR 99", y.reply(0, 0), 99);
        s.due("he would lose", y.reply(0, 1), 0);
        RoadBoards m = s.with("board 1;bidder 50 0;bidder 9 10;mark 0 4;", "board 1;bidder 5 3;bidder 50 0;mark 0 4;");
        s.due("4 * 3 is 10 at least", m.reply(0, 0), 3);
        s.due("12 of a lesser one", m.reply(1, 1), 13);
        RoadBoards two = s.with("board 10;board 9;bidder 9 9;bidder 9 5;bidder 9 1;way own;");
        // For 1: BOARD 0 needs 10: loses 10; BOARD 1 needs 1, as 2 bids: 9 * 8.
        s.due("the lesser BOARD", two.reply(0, 1), 1);
        // For 0: BOARD 0 by 5: 10 * 4 = 40; BOARD 1 by 1: 9 * 8 = 72.
        s.due("the lesser BOARD", two.reply(0, 0), 1);
        s.says("Promise 14", "REPLY. NONE: there is none such (of either).");
        for (int i : new int[] {-1, 3, 6, 7, LOW, HIGH}) s.due("reply(0, " + i + ")", two.reply(0, i), -1);
        for (int n : NO_SALES) s.due("reply(" + n + ", 0)", two.reply(n, 0), -1);
        RoadBoards seven = s.with("board 9;" + "bidder 9 1;".repeat(7));
        s.due("reply(0, 6)", seven.reply(0, 6), 2);
        s.due("reply(0, 7)", seven.reply(0, 7), -1);
        s.due("BIDS are as they were", seven.about(0, 36), 1);
        RoadBoards full = s.with("board 9;board 8;board 7;board 6;board 5;board 4;" + "bidder 9 9;".repeat(6) + "bidder 9 0;");
        s.due("behind six on six BOARDS nothing is gained", full.reply(0, 6), 0);
        full.bid(0, 0, 3);
        // BOARD 5 by 4: 4 * (9 - 3).
        s.due("ahead of the last of six", full.reply(0, 6), 4);
    }

    private static void replyOfSeveral() {
        s.says("Terms 2", "that of the greatest GAIN; of several the least.");
        RoadBoards x = s.with("board 9;bidder 9 90;bidder 3 3;");
        s.due("3 to 99 all pay 3", x.reply(0, 0), 3);
        s.due("0 to 90 gain nothing", x.reply(0, 1), 0);
        x.bid(0, 1, 0);
        s.due("1 to 99 all pay 1", x.reply(0, 0), 1);
        x.rule(0, 1, 4);
        s.due("4 to 99 all pay 4", x.reply(0, 0), 4);
        x.rule(0, 1, 9);
        s.due("9 for 9 gains nothing", x.reply(0, 0), 0);
        x.rule(0, 1, 8);
        s.due("8 for 9", x.reply(0, 0), 8);
        RoadBoards y = s.with("board 9;bidder 9 9;bidder 9 9;");
        s.due("9 for 9 gains nothing", y.reply(0, 0), 0);
        RoadBoards z = s.with("board 0;bidder 9 9;");
        s.due("a PASS of 0 gains nothing", z.reply(0, 0), 0);
    }

    private static void restless() {
        s.says("Terms 2", "AT REST: no REPLY has a greater GAIN than his BID has.");
        RoadBoards x = s.with("board 9;bidder 9 90;bidder 3 3;");
        s.due("90 is as good as 3", x.restless(0), -1);
        x.bid(0, 1, 8);
        s.due("8 of 1 too", x.restless(0), -1);
        x.bid(0, 1, 9);
        s.due("a GAIN of 0 is as good as none", x.restless(0), -1);
        x.bid(0, 1, 10);
        s.due("a GAIN below 0 is not", x.restless(0), 0);
        x.bid(0, 0, 0);
        s.due("1 wins for 1", x.restless(0), -1);
        x.bid(0, 1, 0);
        s.due("0 would win", x.restless(0), 0);
        s.says("Promise 15", "The first BIDDER who is not AT REST. NONE: all are, or there is no such SALE.");
        RoadBoards y = s.with("board 9;" + "bidder 0 1;".repeat(6) + "bidder 9 1;way own;");
        // 0 pays 9 for nothing; without him 6 would bid 2.
        s.due("two are not", y.restless(0), 0);
        y.bid(0, 0, 0);
        s.due("1 is the first then", y.restless(0), 1);
        for (int i = 1; i < 6; i++) y.bid(0, i, 0);
        s.due("all are", y.restless(0), -1);
        y.bid(0, 6, 2);
        s.due("the last one", y.restless(0), 6);
        for (int n : NO_SALES) s.due("restless(" + n + ")", y.restless(n), -1);
    }

    private static void dueTurns(String text, int rounds, int ending, int... bids) {
        RoadBoards x = s.with(text);
        int first = x.about(0, 30);
        s.due("ROUNDS of " + text, x.replies(0, 0), rounds);
        s.due("the ending of " + text, x.replies(0, 1), ending);
        for (int i = 0; i < bids.length; i++) s.due("BID of " + i + " by " + text, x.replies(0, 10 + i), bids[i]);
        s.due("BIDS stay", x.about(0, 30), first);
    }

    private static void turns() {
        s.says("Terms 2", "each whose REPLY has a greater GAIN than his BID has takes it");
        // A BID as good as the REPLY stays: 90, not 3.
        dueTurns("board 9;bidder 9 90;bidder 3 3;", 1, 1, 90, 3);
        s.says("Terms 2", "ROUNDS of all BIDDERS till one in which nobody does (REST)");
        dueTurns("board 9;bidder 9 0;", 2, 1, 1);
        dueTurns("board 9;bidder 9 1;", 1, 1, 1);
        dueTurns("board 9;bidder 0 0;", 1, 1, 0);
        dueTurns("board 1;bidder 3 0;bidder 3 0;way own;", 3, 1, 2, 2);
        // 1 replies to what 0 has bid in the same ROUND.
        dueTurns("board 9;bidder 1 9;bidder 9 0;way own;", 2, 1, 0, 1);
        s.says("Terms 2", "or BIDS are as they were before some ROUND (a ring), at most 40.");
        dueTurns("board 2;board 1;bidder 4 1;bidder 4 2;way own;", 2, 2, 1, 2);
        dueTurns("board 2;board 1;bidder 4 0;bidder 4 0;way own;", 3, 2, 1, 2);
    }

    private static void turnsByForty() {
        s.says("Promise 16", "what 0: how many ROUNDS (that in which nobody does counts), 1: 1 REST, 2 a ring, 0 neither by 40");
        // (r, r + 1) behind the r-th ROUND, till one more would leave nothing.
        dueTurns("board 1;bidder 39 0;bidder 39 0;way own;", 39, 1, 38, 38);
        dueTurns("board 1;bidder 40 0;bidder 40 0;way own;", 40, 1, 39, 39);
        dueTurns("board 1;bidder 41 0;bidder 41 0;way own;", 40, 0, 40, 40);
        dueTurns("board 1;bidder 99 0;bidder 99 0;way own;", 40, 0, 40, 41);
        // 1 goes back to the lesser BOARD in the 39th ROUND, 0 and 1 are as behind the first one in the 40th.
        dueTurns("board 9;board 5;bidder 99 0;bidder 88 0;way own;bar 1;", 40, 2, 1, 2);
        // And one ROUND later: not by 40.
        dueTurns("board 9;board 5;bidder 99 0;bidder 89 0;way own;bar 1;", 40, 0, 40, 1);
    }

    private static void replies() {
        s.says("Promise 16", "10 + i: BID of BIDDER i then. NONE: there is none such, or for another what.");
        RoadBoards x = s.with("board 9;bidder 9 0;bidder 8 0;");
        // (1, 2), (2, 3) .. (7, 8), (8, 8): 9 would leave nothing to 1.
        s.due("replies(0, 10)", x.replies(0, 10), 8);
        s.due("replies(0, 11)", x.replies(0, 11), 8);
        for (int what : new int[] {-1, 2, 3, 9, 12, 13, 16, 17, 20, LOW, HIGH, LOW + 10}) {
            s.due("replies(0, " + what + ")", x.replies(0, what), -1);
        }
        for (int n : NO_SALES) {
            for (int what : new int[] {0, 1, 10}) s.due("replies(" + n + ", " + what + ")", x.replies(n, what), -1);
        }
        RoadBoards seven = s.with("board 9;" + "bidder 0 0;".repeat(6) + "bidder 9 0;");
        s.due("replies(0, 16)", seven.replies(0, 16), 1);
        s.due("replies(0, 17)", seven.replies(0, 17), -1);
        s.due("BIDS stay", seven.about(0, 36), 0);
    }

    private static void rests() {
        s.says("Terms 2", "RESTS of few: of all rows of BIDS 0 .. top (up to 4 BIDDERS, top up to 5)");
        RoadBoards x = s.with("board 1;" + "bidder 9 9;".repeat(4) + "bar 6;", "board 1;bidder 9 9;bar 6;", "board 9;bidder 9 9;");
        int[] four = {1, 16, 81, 256, 625, 1296};
        for (int top = 0; top <= 5; top++) {
            s.due("four of 0 .. " + top + ", no BID counts", x.rests(0, top), four[top]);
            s.due("one of 0 .. " + top + ", no BID counts", x.rests(1, top), top + 1);
            s.due("one of 0 .. " + top + ", each above 0 wins for 1", x.rests(2, top), Math.max(top, 1));
        }
        s.says("Terms 2", "those in which nobody has a greater GAIN by another BID of 0 .. top");
        RoadBoards y = s.with("board 1;bidder 1 0;bidder 9 0;way own;");
        // Up to 0 nobody can; up to 1 the lesser one gains nothing by 1, the other one can't go above him.
        s.due("rests(0, 0)", y.rests(0, 0), 1);
        s.due("rests(0, 1)", y.rests(0, 1), 3);
        s.due("rests(0, 2)", y.rests(0, 2), 2);
        RoadBoards z = s.with("board 1;bidder 9 0;bidder 9 0;way own;bar 5;");
        // Only BIDS of 5 count: with a top of 4 all rest; with 5 the lesser one bids it.
        s.due("a BAR above the top", z.rests(0, 4), 25);
        s.due("a BAR at the top", z.rests(0, 5), 6);
        s.says("Promise 17", "How many RESTS of few. NONE: there is none such, more than 4 BIDDERS, or top is not 0 .. 5.");
        for (int top : new int[] {-1, 6, 7, 99, LOW, HIGH}) s.due("rests(0, " + top + ")", x.rests(0, top), -1);
        for (int n : new int[] {-1, 3, LOW, HIGH}) s.due("rests(" + n + ", 1)", x.rests(n, 1), -1);
        RoadBoards five = s.with("board 1;" + "bidder 9 9;".repeat(5), "board 1;" + "bidder 9 9;".repeat(7));
        for (int top = 0; top <= 5; top++) {
            s.due("five, 0 .. " + top, five.rests(0, top), -1);
            s.due("seven, 0 .. " + top, five.rests(1, top), -1);
        }
    }

    private static void rest() {
        s.says("Promise 18", "BID of a BIDDER in the k-th of these, from 0 on.");
        RoadBoards x = s.with("board 1;" + "bidder 9 9;".repeat(4) + "bar 6;", "board 1;bidder 1 0;bidder 9 0;way own;");
        int[][] rows = {{0, 0, 0, 0, 0}, {1, 0, 0, 0, 1}, {5, 0, 0, 0, 5}, {6, 0, 0, 1, 0}, {36, 0, 1, 0, 0}, {216, 1, 0, 0, 0},
            {1294, 5, 5, 5, 4}, {1295, 5, 5, 5, 5}};
        for (int[] row : rows) {
            for (int i = 0; i < 4; i++) s.due("rest(0, 5, " + row[0] + ", " + i + ")", x.rest(0, 5, row[0], i), row[i + 1]);
        }
        // Up to 1: (0, 1), (1, 0), (1, 1); up to 2: (0, 1), (1, 2).
        int[][] one = {{0, 1}, {1, 0}, {1, 1}};
        int[][] two = {{0, 1}, {1, 2}};
        for (int i = 0; i < 2; i++) {
            for (int k = 0; k < 3; k++) s.due("rest(1, 1, " + k + ", " + i + ")", x.rest(1, 1, k, i), one[k][i]);
            for (int k = 0; k < 2; k++) s.due("rest(1, 2, " + k + ", " + i + ")", x.rest(1, 2, k, i), two[k][i]);
        }
        s.says("Promise 18", "NONE: there is none such (of any), or as rests().");
        for (int k : new int[] {-1, 1296, 1297, LOW, HIGH}) s.due("rest(0, 5, " + k + ", 0)", x.rest(0, 5, k, 0), -1);
        for (int k : new int[] {-1, 3, 4, LOW, HIGH}) s.due("rest(1, 1, " + k + ", 0)", x.rest(1, 1, k, 0), -1);
        s.due("rest(1, 2, 2, 0)", x.rest(1, 2, 2, 0), -1);
        for (int i : new int[] {-1, 4, 6, 7, LOW, HIGH}) s.due("rest(0, 5, 0, " + i + ")", x.rest(0, 5, 0, i), -1);
        s.due("rest(1, 1, 0, 2)", x.rest(1, 1, 0, 2), -1);
        for (int top : new int[] {-1, 6, LOW, HIGH}) s.due("rest(0, " + top + ", 0, 0)", x.rest(0, top, 0, 0), -1);
        for (int n : new int[] {-1, 2, 3, LOW, HIGH}) s.due("rest(" + n + ", 1, 0, 0)", x.rest(n, 1, 0, 0), -1);
        RoadBoards five = s.with("board 1;" + "bidder 9 9;".repeat(5));
        for (int i = 0; i < 5; i++) s.due("five: rest(0, 1, 0, " + i + ")", five.rest(0, 1, 0, i), -1);
    }
}
