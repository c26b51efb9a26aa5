/** Each promise by numbers worked out by hand from the document: ordinary ones, its edges, wrong ones. */
public final class PromisesTest {
    private static int wrong = 0;
    private static int asked = 0;
    private static final int LOW = Integer.MIN_VALUE;
    private static final int HIGH = Integer.MAX_VALUE;

    private static void due(int promise, String call, long got, long want) {
        asked++;
        if (got != want) {
            wrong++;
            System.out.println("promise " + promise + ": " + call + " answered " + got + ", due is " + want);
        }
    }

    private static void due(int promise, String call, boolean got, boolean want) {
        due(promise, call, got ? 1 : 0, want ? 1 : 0);
    }

    private static RoadBoards with(String... texts) {
        RoadBoards x = new RoadBoards();
        for (String text : texts) {
            Texts.put(x, text);
            if (x.sale(-1) < 0) {
                due(4, text, x.fault(0), 0);
            }
        }
        return x;
    }

    public static void main(String[] args) {
        tape();
        sales();
        faults();
        faultsByPlace();
        told();
        changed();
        standing();
        ratherAndReplies();
        turns();
        rests();
        best();
        prices();
        chances();
        days();
        beside();
        come();
        inTurns();
        marks();
        guess();
        pair();
        tells();
        climb();
        images();
        System.out.println(asked + " answers, " + wrong + " wrong");
        if (wrong > 0) System.exit(1);
    }

    private static void tape() {
        RoadBoards x = new RoadBoards();
        due(1, "count()", x.count(), 0);
        for (int k = -1; k < 4; k++) due(1, "again", x.again(k), false);
        due(1, "fault(0)", x.fault(0), 0);
        due(1, "fault(1)", x.fault(1), -1);
        due(3, "end(0)", x.end(0), 0);
        due(3, "end(1)", x.end(1), -1);
        for (int n = 20; n <= 500; n += 20) due(2, "feed", x.feed(0, 0, 0, 0, 0), n);
        due(2, "feed", x.feed(0, 0, 0, 0, 0), -1);
        due(3, "end(501)", x.end(501), -1);
        due(3, "end(-1)", x.end(-1), -1);
        due(3, "end(500)", x.end(500), 500);
        due(3, "end(481)", x.end(481), 481);
        due(2, "feed", x.feed(0, 0, 0, 0, 0), -1);
        due(3, "end(482)", x.end(482), -1);
        due(3, "end(480)", x.end(480), 480);
        due(2, "feed", x.feed(0, 0, 0, 0, 0), 500);
        // Of each number the highest byte first, all four of it.
        x.end(0);
        x.feed(0x626f6172, 0x6420393b, 0x62696464, 0x65722038, 0x20373b20);
        due(2, "sale(-1)", x.sale(-1), 0);
        due(2, "about(0, 10)", x.about(0, 10), 9);
        due(2, "about(0, 20)", x.about(0, 20), 8);
        due(2, "about(0, 30)", x.about(0, 30), 7);
    }

    private static void sales() {
        RoadBoards x = with("board 5;bidder 4 3;");
        due(4, "sale(1)", x.sale(1), -2);
        due(4, "sale(-2)", x.sale(-2), -2);
        due(4, "sale(low)", x.sale(LOW), -2);
        due(4, "sale(high)", x.sale(HIGH), -2);
        // In the place of one: its PRICES are 0 then.
        due(22, "price(0, 0, 7)", x.price(0, 0, 7), true);
        due(23, "judged(0)", x.judged(0), -1);
        x.price(0, 0, 21);
        due(23, "judged(0)", x.judged(0), 0);
        Texts.put(x, "board 6;bidder 3 1;");
        due(4, "sale(0)", x.sale(0), 0);
        due(40, "count()", x.count(), 1);
        due(4, "about(0, 10)", x.about(0, 10), 6);
        due(4, "judged(0)", x.judged(0), -1);
        // A FAULT changes no SALE, but takes the tape.
        Texts.put(x, "board 7;");
        due(4, "sale(0)", x.sale(0), -1);
        due(5, "fault(0)", x.fault(0), 5);
        due(5, "fault(1)", x.fault(1), 8);
        due(5, "fault(2)", x.fault(2), -1);
        due(5, "fault(-1)", x.fault(-1), -1);
        due(4, "about(0, 10)", x.about(0, 10), 6);
        due(4, "end(1)", x.end(1), -1);
        // No text is read where there is no such SALE, FAULT is 0; but the tape is taken.
        Texts.put(x, "board 8;bidder 1 1;");
        due(4, "sale(2)", x.sale(2), -2);
        due(5, "fault(0)", x.fault(0), 0);
        due(5, "fault(1)", x.fault(1), -1);
        due(4, "end(1)", x.end(1), -1);
        due(4, "feed", x.feed(0, 0, 0, 0, 0), 20);
        due(4, "sale(-2)", x.sale(-2), -2);
        due(4, "end(1)", x.end(1), -1);
        Texts.put(x, "board 8;bidder 1 1;");
        due(4, "sale(-1)", x.sale(-1), 1);
        due(4, "about(1, 10)", x.about(1, 10), 8);
        Texts.put(x, "board 9;bidder 1 1;");
        due(4, "sale(-1)", x.sale(-1), 2);
        due(40, "count()", x.count(), 3);
        // There are 3: the tape is taken then, too.
        Texts.put(x, "board;");
        due(4, "sale(-1)", x.sale(-1), -2);
        due(5, "fault(0)", x.fault(0), 0);
        due(5, "fault(1)", x.fault(1), -1);
        due(4, "end(1)", x.end(1), -1);
        Texts.put(x, "board 4;bidder 2 1;");
        due(4, "sale(3)", x.sale(3), -2);
        due(4, "end(1)", x.end(1), -1);
        Texts.put(x, "board 3;bidder 2 1;");
        due(4, "sale(2)", x.sale(2), 2);
        due(4, "about(2, 10)", x.about(2, 10), 3);
        due(40, "count()", x.count(), 3);
    }

    private static void fault(String text, int fault, int place) {
        RoadBoards x = new RoadBoards();
        Texts.put(x, text);
        due(4, "sale of <" + text + ">", x.sale(-1), fault == 0 ? 0 : -1);
        due(5, "fault(0) of <" + text + ">", x.fault(0), fault);
        due(5, "fault(1) of <" + text + ">", x.fault(1), place);
        due(40, "count()", x.count(), fault == 0 ? 1 : 0);
    }

    private static void faults() {
        String ok = "board 9;bidder 9 9;"; // 19 bytes
        String two = ok + "bidder 9 9;"; // 30 bytes
        fault(ok, 0, -1);
        fault(" \n board\n9 ;bidder 9 9;\n", 0, -1);
        fault("board9;bidder9 9;", 0, -1);
        fault("board 0009;bidder 0099 0;", 0, -1);
        fault("", 5, 0);
        fault("  \n", 5, 3);
        fault("board 9; ", 5, 9);
        fault("bidder 9 9;", 5, 11);
        fault(ok + "x", 1, 19);
        fault(ok + "\t", 1, 19);
        fault(ok + ";", 1, 19);
        fault(ok + "7", 1, 19);
        fault(ok + "12345", 1, 19);
        fault(ok + "Bar 1;", 1, 19);
        fault(ok + "bar", 1, 22);
        fault(ok + "bar  ", 1, 24);
        fault(ok + "bar 1", 1, 24);
        fault(ok + "bar 1 1;", 1, 25);
        fault(ok + "bar;", 1, 22);
        fault(ok + "bars 1;", 1, 19);
        fault(ok + "barz 1;", 1, 19);
        fault(ok + "bara 1;", 1, 19);
        for (char c : "`{/:\t\r\0@[".toCharArray()) fault(ok + "bar" + c + " 1;", 1, 22);
        fault(ok + "bar 1/", 1, 24);
        fault(ok + "bar 1:", 1, 24);
        fault(";".repeat(500), 1, 0);
        fault(ok + " ".repeat(481), 0, -1);
        fault(ok + " ".repeat(480) + "z", 1, 499);
        fault(ok + "bar" + " ".repeat(478), 1, 500);
        fault(" ".repeat(500), 5, 500);
        fault("7;".repeat(250), 1, 0);
        fault(ok + "bar 00001;", 1, 23);
        fault(ok + "bar 1" + (char) 233 + ";", 1, 24);
        fault(ok + "way 1;", 1, 23);
        fault(ok + "way own next;", 1, 27);
        fault(ok + "extra 0 0 own 1;", 1, 29);
        fault(ok + "extra 0 0 1;", 1, 29);
        fault(two + "friend 0 1;", 1, 40);
        fault(two + "foe 0 1 more 1;", 1, 38);
        fault("board 100;bidder 9 9;", 2, 6);
        fault("board 9;bidder 100 9;", 2, 15);
        fault("board 9;bidder 9 100;", 2, 17);
        fault(ok + "mark 0 0;", 2, 26);
        fault(ok + "mark 0 10;", 2, 26);
        fault(ok + "mark 0 9;mark 0 1;", 0, -1);
        fault(ok + "mark 1 1;", 2, 24);
        fault(ok + "purse 0 9999;purse 0 0;", 0, -1);
        fault(ok + "purse 1 1;", 2, 25);
        fault(ok + "extra 0 0 more 999;extra 0 0 less 999;extra 0 0 less 0;", 0, -1);
        fault(ok + "extra 0 0 more 1000;", 2, 34);
        fault(ok + "extra 0 1 more 1;", 2, 27);
        fault(ok + "extra 1 1 more 1;", 2, 25);
        fault(ok + "sort 0 99 9;sort 0 0 1;sort 0 0 1;", 0, -1);
        fault(ok + "sort 0 100 1;", 2, 26);
        fault(ok + "sort 0 1 0;", 2, 28);
        fault(ok + "sort 0 1 10;", 2, 28);
        fault(ok + "sort 1 1 1;", 2, 24);
        fault(two + "friend 0 1 less 999;friend 1 0 more 0;foe 0 1;foe 1 0;", 0, -1);
        fault(two + "friend 0 0 more 1;", 2, 39);
        fault(two + "friend 0 2 more 1;", 2, 39);
        fault(two + "friend 2 2 more 1;", 2, 37);
        fault(two + "friend 0 1 more 1000;", 2, 46);
        fault(two + "foe 1 1;", 2, 36);
        fault(two + "foe 2 1;", 2, 34);
        fault(ok + "bar 99;bar 0;", 0, -1);
        fault(ok + "bar 100;", 2, 23);
        fault("mark 0 1;" + ok, 2, 5);
        fault("bidder 1 1;extra 0 0 more 1;board 1;", 2, 19);
        fault("board 9;board 9;board 8;bidder 1 1;", 0, -1);
        fault("board 8;board 9;bidder 1 1;", 4, 14);
        fault("board 8;board 100;bidder 1 1;", 2, 14);
        fault("board 8;bidder 1 1;board 7;way own;board 8;", 4, 41);
    }

    private static void faultsByPlace() {
        String boards = "board 9;board 9;board 9;board 9;board 9;board 9;"; // 48 bytes
        String seven = "bidder 1 1;".repeat(7); // 77 bytes
        fault(boards + "bidder 1 1;", 0, -1);
        fault(boards + "board 9;bidder 1 1;", 3, 48);
        fault(boards + "board 100;bidder 1 1;", 3, 48);
        fault("board 1;" + seven, 0, -1);
        fault("board 1;" + seven + "bidder 100 1;", 3, 85);
        String ok = "board 9;bidder 9 9;"; // 19 bytes
        String sorts = "sort 0 1 1;sort 0 1 1;sort 0 1 1;"; // 33 bytes
        fault(ok + sorts + "sort 0 1 1;", 3, 52);
        fault(ok + sorts + "sort 0 100 0;", 3, 52);
        fault(ok + sorts + "sort 1 1 1;", 2, 57);
        fault(ok + sorts + "bidder 1 1;sort 1 1 1;sort 1 1 1;sort 1 1 1;", 0, -1);
        fault(ok + "bar 1;".repeat(38), 0, -1);
        fault(ok + "bar 1;".repeat(39), 3, 19 + 6 * 38);
        fault(ok + "bar 1;".repeat(38) + " bar 100;", 3, 19 + 6 * 38 + 1);
        fault(ok + "bar 1;".repeat(37) + "bar 100;bar 1;", 2, 19 + 6 * 37 + 4);
        // A text that can't go on goes before all the others; no board, no bidder behind them.
        fault("board 100;board 5", 1, 17);
        fault(ok + "bar 100;bar x;", 1, 31);
        fault("board 100;", 2, 6);
        fault("bidder 1 100;mark 5 1;", 2, 9);
    }

    private static void told() {
        RoadBoards x = with("board 10;board 4;bidder 7 6;bidder 5 50;mark 1 3;mark 1 4;purse 0 77;purse 0 78;"
            + "extra 0 1 more 5;extra 0 1 less 2;extra 1 1 less 30;extra 1 0 more 999;sort 1 4 2;sort 1 4 2;"
            + "way own;way harm;bar 8;bar 9;");
        int[][] abouts = {{0, 2}, {1, 2}, {2, 2}, {3, 9}, {4, -1}, {9, -1}, {10, 10}, {11, 4}, {12, -1}, {19, -1},
            {20, 7}, {21, 5}, {22, -1}, {30, 6}, {31, 50}, {40, 1}, {41, 4}, {42, -1}, {50, 78}, {51, 9999}, {52, -1},
            {60, 0}, {61, 2}, {62, -1}, {69, -1}, {70, -1}, {-1, -1}, {LOW, -1}, {HIGH, -1}};
        for (int[] a : abouts) due(6, "about(0, " + a[0] + ")", x.about(0, a[0]), a[1]);
        due(6, "about(1, 0)", x.about(1, 0), -1);
        due(6, "about(-1, 0)", x.about(-1, 0), -1);
        due(7, "worth(0, 0, 0)", x.worth(0, 0, 0), 70);
        due(7, "worth(0, 0, 1)", x.worth(0, 0, 1), 26);
        due(7, "worth(0, 1, 1)", x.worth(0, 1, 1), 0);
        due(7, "worth(0, 1, 0)", x.worth(0, 1, 0), 1049);
        due(7, "worth(1, 0, 0)", x.worth(1, 0, 0), -1);
        due(7, "worth(0, 2, 0)", x.worth(0, 2, 0), -1);
        due(7, "worth(0, -1, 0)", x.worth(0, -1, 0), -1);
        due(7, "worth(0, 0, 2)", x.worth(0, 0, 2), -1);
        due(7, "worth(0, 0, -1)", x.worth(0, 0, -1), -1);
        RoadBoards y = with("board 1;bidder 1 1;");
        due(6, "about(0, 2)", y.about(0, 2), 1);
        due(6, "about(0, 3)", y.about(0, 3), 0);
    }

    private static void changed() {
        RoadBoards x = with("board 3;bidder 5 5;bidder 5 4;");
        due(8, "bid(0, 1, 99)", x.bid(0, 1, 99), true);
        due(8, "about(0, 31)", x.about(0, 31), 99);
        due(8, "stands(0, 0)", x.stands(0, 0), 1);
        due(8, "bid(0, 1, 0)", x.bid(0, 1, 0), true);
        due(8, "stands(0, 0)", x.stands(0, 0), 0);
        due(8, "bid(0, 1, 100)", x.bid(0, 1, 100), false);
        due(8, "bid(0, 1, -1)", x.bid(0, 1, -1), false);
        due(8, "bid(0, 2, 1)", x.bid(0, 2, 1), false);
        due(8, "bid(0, -1, 1)", x.bid(0, -1, 1), false);
        due(8, "bid(1, 0, 1)", x.bid(1, 0, 1), false);
        due(8, "about(0, 31)", x.about(0, 31), 0);
        due(9, "rule(0, 2, 99)", x.rule(0, 2, 99), true);
        due(9, "about(0, 2)", x.about(0, 2), 2);
        due(9, "about(0, 3)", x.about(0, 3), 99);
        due(9, "stands(0, 0)", x.stands(0, 0), -1);
        due(9, "rule(0, 3, 1)", x.rule(0, 3, 1), false);
        due(9, "rule(0, -1, 1)", x.rule(0, -1, 1), false);
        due(9, "rule(0, 0, 100)", x.rule(0, 0, 100), false);
        due(9, "rule(0, 0, -1)", x.rule(0, 0, -1), false);
        due(9, "rule(1, 0, 0)", x.rule(1, 0, 0), false);
        due(9, "about(0, 2)", x.about(0, 2), 2);
        due(9, "rule(0, 0, 0)", x.rule(0, 0, 0), true);
        due(9, "about(0, 2)", x.about(0, 2), 0);
    }

    private static void standing() {
        // SCORES 12, 12, 10, 3: of alike ones the least BIDDER first.
        RoadBoards x = with("board 10;board 4;bidder 9 3;bidder 9 6;bidder 9 4;bidder 9 5;"
            + "mark 1 2;mark 2 3;mark 3 2;way own;");
        int[] stands = {1, 2};
        for (int j = 0; j < 2; j++) due(10, "stands(0, " + j + ")", x.stands(0, j), stands[j]);
        due(10, "stands(0, 2)", x.stands(0, 2), -1);
        due(10, "stands(0, -1)", x.stands(0, -1), -1);
        due(10, "stands(1, 0)", x.stands(1, 0), -1);
        due(11, "pay own", x.pay(0, 1, false), 60);
        due(11, "pay own", x.pay(0, 2, false), 16);
        due(11, "gain own", x.pay(0, 2, true), 20);
        due(11, "pay of who does not stand", x.pay(0, 3, false), 0);
        due(11, "gain of who does not stand", x.pay(0, 3, true), 0);
        due(12, "take own", x.take(0), 76);
        // next: 2 n >= 12, so 6; 3 n >= 10, so 4.
        x.rule(0, 1, 0);
        due(11, "pay next", x.pay(0, 1, false), 60);
        due(11, "pay next", x.pay(0, 2, false), 16);
        // harm: 6 * 12 + 4 * 10 = 112 by 2; 40 by 3.
        x.rule(0, 2, 0);
        due(11, "pay harm", x.pay(0, 1, false), 56);
        due(11, "pay harm", x.pay(0, 2, false), 14);
        due(12, "take harm", x.take(0), 70);
        // With a BAR of 5 only 1 and 3 are left; a BAR counts as BID at least.
        x.rule(0, 1, 5);
        due(10, "stands(0, 1)", x.stands(0, 1), 3);
        due(11, "pay next", x.pay(0, 1, false), 50);
        due(11, "pay next", x.pay(0, 3, false), 20);
        x.rule(0, 2, 5);
        due(11, "pay harm", x.pay(0, 1, false), 50);
        due(11, "pay harm", x.pay(0, 3, false), 20);
        // Nobody behind: 1 at least by the next one's, nothing by harm.
        x.rule(0, 1, 0);
        for (int i = 0; i < 3; i++) x.bid(0, i, 0);
        due(11, "pay next alone", x.pay(0, 3, false), 10);
        x.rule(0, 2, 0);
        due(11, "pay harm alone", x.pay(0, 3, false), 0);
        x.bid(0, 3, 0);
        due(12, "take of nobody", x.take(0), 0);
        due(10, "stands(0, 0)", x.stands(0, 0), -1);
        due(11, "pay(1, 0)", x.pay(1, 0, false), -100000);
        due(11, "pay(0, 4)", x.pay(0, 4, false), -100000);
        due(11, "pay(0, -1)", x.pay(0, -1, true), -100000);
        due(12, "take(1)", x.take(1), -1);
        due(12, "take(-1)", x.take(-1), -1);
    }

    private static void ratherAndReplies() {
        // 0 has BOARD 0 for 40, gain 10, and would rather have BOARD 1 for 8: 20 - 8 = 12.
        RoadBoards x = with("board 10;board 4;bidder 5 5;bidder 4 4;bidder 2 2;");
        due(13, "rather(0, false)", x.rather(0, false), 0);
        due(13, "rather(0, true)", x.rather(0, true), 1);
        x.rule(0, 2, 0);
        due(13, "rather by harm", x.rather(0, false), -1);
        due(13, "rather by harm", x.rather(0, true), -1);
        due(13, "rather(1, false)", x.rather(1, false), -1);
        // A BOARD on which nobody stands costs nothing.
        RoadBoards e = with("board 3;board 3;board 3;bidder 1 2;bidder 2 0;way own;");
        due(13, "rather(0, false)", e.rather(0, false), 0);
        due(13, "rather(0, true)", e.rather(0, true), 1);
        e.bid(0, 0, 0);
        due(13, "rather(0, true)", e.rather(0, true), 0);
        // Replies: the least BID of the greatest GAIN.
        x.rule(0, 1, 0);
        due(14, "reply(0, 0)", x.reply(0, 0), 2);
        due(14, "reply(0, 1)", x.reply(0, 1), 2);
        due(14, "reply(0, 2)", x.reply(0, 2), 0);
        due(14, "reply(0, 3)", x.reply(0, 3), -1);
        due(14, "reply(1, 0)", x.reply(1, 0), -1);
        due(15, "restless(0)", x.restless(0), 0);
        x.bid(0, 0, 3);
        due(15, "restless(0)", x.restless(0), -1);
        due(15, "restless(1)", x.restless(1), -1);
        due(14, "reply of one whose BID is as good", x.reply(0, 1), 4);
        // Own: one more than the next one, or as much by the lesser number.
        RoadBoards o = with("board 10;bidder 9 0;bidder 9 5;bidder 9 6;way own;");
        due(14, "reply own", o.reply(0, 0), 6);
        o.bid(0, 0, 6);
        due(14, "reply own", o.reply(0, 2), 7);
        o.rule(0, 0, 8);
        due(14, "reply to a BAR", o.reply(0, 0), 8);
        o.rule(0, 0, 9);
        due(14, "reply to a BAR that leaves nothing", o.reply(0, 0), 0);
        due(15, "restless with such a BAR", o.restless(0), -1);
    }

    private static void turns(String text, int... want) {
        RoadBoards x = with(text);
        due(16, "ROUNDS of " + text, x.replies(0, 0), want[0]);
        due(16, "ending of " + text, x.replies(0, 1), want[1]);
        due(16, "BID of " + text, x.replies(0, 10), want[2]);
        due(16, "BID of " + text, x.replies(0, 11), want[3]);
        due(16, "BIDS stay", x.replies(0, 0), want[0]);
        for (int what : new int[] {-1, 2, 9, 12, 17, 20, LOW, HIGH}) due(16, "replies", x.replies(0, what), -1);
        due(16, "replies(1, 0)", x.replies(1, 0), -1);
        due(16, "replies(-1, 10)", x.replies(-1, 10), -1);
    }

    private static void turns() {
        // 0 bids 1; 1 would need 2, which leaves nothing. Then nobody.
        turns("board 10;bidder 3 0;bidder 2 0;way own;", 2, 1, 1, 0);
        // (1, 2), (2, 2): 3 leaves nothing; then nobody.
        turns("board 1;bidder 3 0;bidder 3 0;way own;", 3, 1, 2, 2);
        // All rest at once: that ROUND counts.
        turns("board 1;bidder 3 2;bidder 3 2;way own;", 1, 1, 2, 2);
        // (1, 2) to (2, 1) and back.
        turns("board 2;board 1;bidder 4 1;bidder 4 2;way own;", 2, 2, 1, 2);
        // The ring begins behind the first ROUND.
        turns("board 2;board 1;bidder 4 0;bidder 4 0;way own;", 3, 2, 1, 2);
        // One more each ROUND, and no end by 40.
        turns("board 1;bidder 99 0;bidder 99 0;way own;", 40, 0, 40, 41);
        // (r, r + 1) up to (39, 40); of 41 nothing were left, so it rests: (40, 40), and one ROUND still.
        turns("board 1;bidder 41 0;bidder 41 0;way own;", 40, 0, 40, 40);
        turns("board 1;bidder 40 0;bidder 40 0;way own;", 40, 1, 39, 39);
    }

    private static void rests() {
        // One BOARD of 1, own: worth 2 and 1. BIDS 0 .. 2.
        RoadBoards x = with("board 1;bidder 2 0;bidder 1 0;way own;");
        // (1, 0), (1, 1) and (2, 2) rest; with (2, 0) and (2, 1) 0 would rather bid 1, with (0, .) more.
        due(17, "rests(0, 2)", x.rests(0, 2), 3);
        int[][] rests = {{1, 0}, {1, 1}, {2, 2}, {-1, -1}};
        for (int k = 0; k < rests.length; k++) {
            for (int i = 0; i < 2; i++) due(18, "rest " + k + " " + i, x.rest(0, 2, k, i), rests[k][i]);
        }
        due(18, "rest(0, 2, -1, 0)", x.rest(0, 2, -1, 0), -1);
        due(18, "rest(0, 2, high, 0)", x.rest(0, 2, HIGH, 0), -1);
        due(18, "rest(0, 2, 0, 2)", x.rest(0, 2, 0, 2), -1);
        due(18, "rest(0, 2, 0, -1)", x.rest(0, 2, 0, -1), -1);
        due(18, "rest(1, 2, 0, 0)", x.rest(1, 2, 0, 0), -1);
        due(18, "rest(0, 6, 0, 0)", x.rest(0, 6, 0, 0), -1);
        due(17, "rests(0, 0)", x.rests(0, 0), 1);
        due(17, "rests(0, -1)", x.rests(0, -1), -1);
        due(17, "rests(0, 6)", x.rests(0, 6), -1);
        due(17, "rests(1, 1)", x.rests(1, 1), -1);
        // A BAR above the top: all rows rest.
        RoadBoards y = with("board 1;" + "bidder 9 9;".repeat(4) + "bar 6;", "board 1;" + "bidder 1 1;".repeat(5));
        due(17, "rests of four", y.rests(0, 5), 1296);
        due(18, "rest of four", y.rest(0, 5, 1295, 3), 5);
        due(18, "rest of four", y.rest(0, 5, 6, 2), 1);
        due(18, "rest of four", y.rest(0, 5, 6, 3), 0);
        due(18, "rest of four", y.rest(0, 5, 1296, 3), -1);
        due(17, "rests of five", y.rests(1, 1), -1);
        due(18, "rest of five", y.rest(1, 1, 0, 0), -1);
    }

    private static void best() {
        RoadBoards x = with("board 5;board 2;board 0;bidder 3 9;bidder 3 0;bidder 4 8;extra 0 2 more 4;extra 1 0 less 7;");
        // Worths: 15 6 4; 8 6 0; 20 8 0. Most: 2, 1, 0 = 20 + 6 + 4.
        due(19, "best(0, 0)", x.best(0, 0), 30);
        due(19, "best(0, 10)", x.best(0, 10), 2);
        due(19, "best(0, 11)", x.best(0, 11), 1);
        due(19, "best(0, 12)", x.best(0, 12), 0);
        // 0 stands on 0, 2 on 1: 15 + 8.
        due(19, "best(0, 1)", x.best(0, 1), 23);
        for (int what : new int[] {-1, 2, 9, 13, 20, LOW, HIGH}) due(19, "best", x.best(0, what), -1);
        due(19, "best(1, 0)", x.best(1, 0), -1);
        // Of several the least row; nobody is greater than anybody, also where he is worth nothing.
        RoadBoards y = with("board 2;board 2;board 2;bidder 5 1;bidder 0 1;bidder 5 1;", "board 9;board 9;bidder 1 1;");
        due(19, "least row", y.best(0, 10), 0);
        due(19, "least row", y.best(0, 11), 1);
        due(19, "least row", y.best(0, 12), 2);
        due(19, "least row", y.best(1, 10), 0);
        due(19, "nobody", y.best(1, 11), -1);
        // With BOARD 0 twice 20 + 15 + 6; without it 8 + 4. With 1 twice 20 + 6 + 6; without it 20 + 4.
        due(20, "even(0, 0, false)", x.even(0, 0, false), 41 - 30);
        due(20, "even(0, 0, true)", x.even(0, 0, true), 30 - 12);
        due(20, "even(0, 1, false)", x.even(0, 1, false), 32 - 30);
        due(20, "even(0, 1, true)", x.even(0, 1, true), 30 - 24);
        due(20, "even(0, 3, true)", x.even(0, 3, true), -1);
        due(20, "even(0, -1, true)", x.even(0, -1, true), -1);
        due(20, "even(1, 0, true)", x.even(1, 0, true), -1);
        // Truth pays the LEAST: others without 2: 15 + 6; they are 10 in BEST.
        due(21, "truly(0, 2)", x.truly(0, 2), 11);
        due(21, "truly(0, 1)", x.truly(0, 1), 26 - 24);
        due(21, "truly(0, 0)", x.truly(0, 0), 26 - 26);
        due(21, "truly(0, 3)", x.truly(0, 3), -1);
        due(21, "truly(1, 0)", x.truly(1, 0), -1);
        RoadBoards z = with("board 1;bidder 1 1;bidder 2 1;");
        due(21, "truly without a BOARD", z.truly(0, 0), 0);
        due(21, "truly", z.truly(0, 1), 1);
    }

    private static void prices() {
        RoadBoards x = with("board 5;board 3;board 0;bidder 4 1;bidder 2 1;");
        // BEST: 0, 1 and nobody (a third BOARD). Worths 20 12 0; 10 6 0.
        due(22, "price(0, 0, 4)", x.price(0, 0, 4), true);
        due(23, "judged(0)", x.judged(0), -1);
        x.price(0, 0, 3);
        due(23, "1 would rather have 0", x.judged(0), 1);
        x.price(0, 0, 9);
        due(23, "0 would rather have 1", x.judged(0), 0);
        x.price(0, 0, 8);
        due(23, "even", x.judged(0), -1);
        x.price(0, 1, 7);
        due(23, "1 would rather have none", x.judged(0), 1);
        x.price(0, 1, 0);
        x.price(0, 2, 1);
        due(23, "nobody has BOARD 2", x.judged(0), 102);
        due(22, "price(0, 2, 9999)", x.price(0, 2, 9999), true);
        due(22, "price(0, 2, 10000)", x.price(0, 2, 10000), false);
        due(22, "price(0, 2, -1)", x.price(0, 2, -1), false);
        due(22, "price(0, 3, 0)", x.price(0, 3, 0), false);
        due(22, "price(0, -1, 0)", x.price(0, -1, 0), false);
        due(22, "price(1, 0, 0)", x.price(1, 0, 0), false);
        due(23, "judged(0)", x.judged(0), 102);
        due(22, "price(0, 2, 0)", x.price(0, 2, 0), true);
        due(23, "judged(0)", x.judged(0), -1);
        due(23, "judged(1)", x.judged(1), -1);
        // Who has none would rather have one.
        RoadBoards y = with("board 2;bidder 5 1;bidder 3 1;");
        due(23, "1 would rather have one", y.judged(0), 1);
        y.price(0, 0, 6);
        due(23, "even", y.judged(0), -1);
    }

    private static void chances() {
        RoadBoards x = with("board 10;bidder 3 3;bidder 9 9;bidder 1 2;sort 1 4 1;sort 1 6 2;sort 0 2 3;sort 0 5 1;");
        due(24, "parts(0)", x.parts(0), 12);
        // (2, 4): 3 parts, pays 2 by next; (2, 6): 6, 2; (5, 4): 1, 4; (5, 6): 2, 5; bidder 2 bids 2.
        due(25, "taken(0, 0)", x.taken(0, 0), 10 * (3 * 2 + 6 * 2 + 4 + 2 * 5));
        due(25, "taken(0, 3)", x.taken(0, 3), 10 * (3 * 3 + 6 * 3 + 4 + 2 * 5));
        due(25, "taken(0, 5)", x.taken(0, 5), 10 * (6 * 5 + 1 * 5 + 2 * 5));
        due(25, "taken(0, 6)", x.taken(0, 6), 10 * 8 * 6);
        due(25, "taken(0, 7)", x.taken(0, 7), 0);
        due(25, "taken(0, 4)", x.taken(0, 4), 10 * (3 * 4 + 6 * 4 + 4 + 2 * 5));
        due(26, "high(0)", x.high(0), 4);
        due(25, "taken(0, 100)", x.taken(0, 100), -1);
        due(25, "taken(0, -1)", x.taken(0, -1), -1);
        due(25, "taken(1, 0)", x.taken(1, 0), -1);
        due(24, "parts(1)", x.parts(1), -1);
        due(26, "high(1)", x.high(1), -1);
        due(24, "BAR stays", x.about(0, 3), 0);
        // By the WAY: own.
        x.rule(0, 0, 50);
        due(25, "taken own", x.taken(0, 0), 10 * (3 * 4 + 6 * 6 + 5 + 2 * 6));
        // Nothing at all: the least BAR; without SORTS one part.
        RoadBoards y = with("board 0;bidder 9 9;", "board 5;bidder 9 4;");
        due(26, "high(0)", y.high(0), 0);
        due(24, "parts(0)", y.parts(0), 1);
        due(26, "high(1)", y.high(1), 4);
        due(25, "taken(1, 4)", y.taken(1, 4), 20);
        // Of several BARS the least: own pays the same up to the BID.
        y.rule(1, 0, 0);
        due(26, "high own", y.high(1), 0);
        StringBuilder most = new StringBuilder("board 99;");
        for (int i = 0; i < 7; i++) most.append("bidder 0 0;");
        for (int i = 0; i < 7; i++) for (int k = 0; k < 3; k++) most.append("sort ").append(i).append(" 99 9;");
        RoadBoards z = with(most.toString());
        due(24, "parts at most", z.parts(0), 10460353203L);
        due(25, "taken at most", z.taken(0, 0), 10460353203L * 9801);
        due(26, "high", z.high(0), 0);
    }

    private static void days() {
        // Own: 0 pays 50 a day, 1 pays 12 a day on BOARD 1, 30 on BOARD 0.
        RoadBoards x = with("board 10;board 4;bidder 9 5;bidder 9 3;purse 0 120;purse 1 100;way own;");
        due(27, "day 1", x.day(0, 1, 0), 62);
        due(27, "day 1", x.day(0, 1, 10), 70);
        due(27, "day 1", x.day(0, 1, 11), 88);
        due(27, "day 1", x.day(0, 1, 20), 0);
        due(27, "day 1", x.day(0, 1, 21), 1);
        due(27, "day 2", x.day(0, 2, 10), 20);
        due(27, "day 3", x.day(0, 3, 0), 30);
        due(27, "day 3", x.day(0, 3, 20), 1);
        due(27, "day 3", x.day(0, 3, 21), -1);
        due(27, "day 3", x.day(0, 3, 10), 20);
        due(27, "day 3", x.day(0, 3, 11), 46);
        due(27, "day 4", x.day(0, 4, 11), 16);
        due(27, "day 5", x.day(0, 5, 0), 0);
        due(27, "day 60", x.day(0, 60, 11), 16);
        due(28, "spent(0, 0)", x.spent(0, 0), 3);
        due(28, "spent(0, 1)", x.spent(0, 1), 5);
        due(27, "purses stay", x.about(0, 50), 120);
        for (int d : new int[] {0, -1, 61, LOW, HIGH}) due(27, "day", x.day(0, d, 0), -1);
        for (int what : new int[] {-1, 1, 9, 12, 19, 22, 30, LOW, HIGH}) due(27, "day", x.day(0, 1, what), -1);
        due(27, "day(1, 1, 0)", x.day(1, 1, 0), -1);
        due(28, "spent(0, 2)", x.spent(0, 2), -1);
        due(28, "spent(1, 0)", x.spent(1, 0), -1);
        // The first by BOARDS goes first; the day is sold anew without him, cheaper for the next one.
        RoadBoards y = with("board 10;bidder 9 5;bidder 9 4;bidder 9 3;purse 0 39;purse 1 29;purse 2 10;");
        due(27, "day 1", y.day(0, 1, 20), 2);
        due(27, "day 1", y.day(0, 1, 0), 10);
        due(27, "day 1", y.day(0, 1, 12), 0);
        due(28, "spent(0, 0)", y.spent(0, 0), 1);
        due(28, "spent(0, 1)", y.spent(0, 1), 1);
        due(28, "spent(0, 2)", y.spent(0, 2), 2);
        // 9999 lasts for 60 days of 99, but for 50 of 198 only.
        RoadBoards z = with("board 99;bidder 9 2;", "board 99;bidder 9 2;way own;");
        due(28, "spent: none up to 60", z.spent(0, 0), -1);
        due(28, "spent: 50 days of 198 and 99 left", z.spent(1, 0), 51);
    }

    private static void beside() {
        RoadBoards x = with("board 3;board 2;board 1;bidder 3 1;bidder 2 1;bidder 1 1;foe 1 0;friend 0 2 more 9;friend 2 0 more 2;");
        // 0 2 1: 9 + 2 + 2 + 2 = 15; 0 - 1 nobody between: 9 + 2 = 11; 2 0 1 no; 1 2 0: 6 + 2 + 3 + 2 = 13.
        due(29, "beside(0, 0)", x.beside(0, 0), 15);
        due(29, "beside(0, 10)", x.beside(0, 10), 0);
        due(29, "beside(0, 11)", x.beside(0, 11), 2);
        due(29, "beside(0, 12)", x.beside(0, 12), 1);
        due(29, "best is another one", x.best(0, 0), 14);
        for (int what : new int[] {-1, 1, 2, 9, 13, 20, LOW, HIGH}) due(29, "beside", x.beside(0, what), -100000);
        due(29, "beside(1, 0)", x.beside(1, 0), -100000);
        // Hurt: rather apart, with nobody between them.
        RoadBoards y = with("board 5;board 5;board 5;bidder 2 1;bidder 2 1;friend 0 1 less 1;");
        due(29, "apart", y.beside(0, 0), 20);
        due(29, "apart", y.beside(0, 10), 0);
        due(29, "apart", y.beside(0, 11), -100000);
        due(29, "apart", y.beside(0, 12), 1);
        // Help where nobody is worth anything.
        RoadBoards z = with("board 0;board 0;bidder 2 1;bidder 2 1;bidder 2 1;friend 1 2 more 999;");
        due(29, "help", z.beside(0, 0), 999);
        due(29, "help", z.beside(0, 10), 1);
        due(29, "help", z.beside(0, 11), 2);
    }

    private static void come() {
        RoadBoards x = with("board 10;board 4;bidder 7 6;bidder 5 4;bidder 5 2;mark 1 2;");
        // SCORES 8 of 1, 6 of 0, 2 of 2. A BID of 7 stands on BOARD 1 and pays 4 * 6.
        due(30, "come(0, 6, 7)", x.come(0, 6, 7), 0b1001);
        due(30, "come(0, 5, 7)", x.come(0, 5, 7), 0);
        // A BID of 8 is as the SCORE of 1, who is less: behind him. 9: all move.
        due(30, "come(0, 6, 8)", x.come(0, 6, 8), 0b1001);
        due(30, "come(0, 8, 9)", x.come(0, 8, 9), 0b1011);
        due(30, "come(0, 7, 9)", x.come(0, 7, 9), 0);
        due(30, "come(0, 99, 6)", x.come(0, 99, 6), 0);
        due(30, "come(0, 99, 0)", x.come(0, 99, 0), 0);
        x.bid(0, 1, 0);
        x.bid(0, 2, 0);
        due(30, "now", x.come(0, 1, 1), 0b1000);
        x.rule(0, 1, 2);
        due(30, "below the BAR", x.come(0, 1, 1), 0);
        due(30, "come(0, 100, 1)", x.come(0, 100, 1), -1);
        due(30, "come(0, 1, 100)", x.come(0, 1, 100), -1);
        due(30, "come(0, -1, 1)", x.come(0, -1, 1), -1);
        due(30, "come(0, 1, -1)", x.come(0, 1, -1), -1);
        due(30, "come(1, 1, 1)", x.come(1, 1, 1), -1);
        RoadBoards y = with("board 1;" + "bidder 9 9;".repeat(7));
        due(30, "an eighth", y.come(0, 99, 99), 0b10000001);
        due(30, "he does not stay", y.about(0, 1), 7);
    }

    private static void inTurns() {
        RoadBoards x = with("board 10;board 4;bidder 7 6;bidder 5 4;bidder 3 3;");
        // 0 pays 40, gains 30; in turns 98 - 14 - 60. 1 pays 12, gains 8; 70 - 14 - 16.
        due(31, "spared(0, 0)", x.spared(0, 0), 24);
        due(31, "spared(0, 1)", x.spared(0, 1), 40);
        due(31, "spared(0, 2)", x.spared(0, 2), -1000000);
        due(31, "spared(0, 3)", x.spared(0, 3), -1000000);
        due(31, "spared(1, 0)", x.spared(1, 0), -1000000);
        due(32, "breaks(0)", x.breaks(0), -1);
        // harm: 0 pays 36, gains 34; 98 - 14 - 68; a BAR of 3: 98 - 42 - 68 < 0.
        x.rule(0, 2, 3);
        due(31, "spared by a BAR", x.spared(0, 0), -12);
        due(31, "spared by a BAR", x.spared(0, 1), 70 - 42 - 16);
        due(32, "breaks(0)", x.breaks(0), 0);
        due(32, "breaks(1)", x.breaks(1), -1);
        // Only BOARDS of those who stand are shared.
        RoadBoards y = with("board 9;board 5;board 1;bidder 9 2;bidder 9 1;");
        // 0 pays 9, gains 72; 1 pays 5, gains 40; in turns 126 - 14.
        due(31, "spared(0, 0)", y.spared(0, 0), 112 - 144);
        due(31, "spared(0, 1)", y.spared(0, 1), 112 - 80);
        due(32, "breaks(0)", y.breaks(0), 0);
        RoadBoards z = with("board 9;bidder 9 0;");
        due(32, "nobody stands", z.breaks(0), -1);
    }

    private static void marks() {
        RoadBoards x = with("board 10;board 5;bidder 7 4;bidder 5 3;bidder 5 2;");
        // next: TAKE with MARK m of 1: 1: 30 + 10; 2 (SCORES 6 4 2): 20 + 10; of 2: 2: 4 4 3: 40 + 10 (2 * 2 >= 3).
        due(33, "mark(0, 1)", x.mark(0, 1), 1);
        due(33, "mark(0, 2)", x.mark(0, 2), 2);
        due(33, "MARK stays", x.about(0, 42), 1);
        due(33, "mark(0, 3)", x.mark(0, 3), -1);
        due(33, "mark(0, -1)", x.mark(0, -1), -1);
        due(33, "mark(1, 0)", x.mark(1, 0), -1);
        due(34, "without(0, 0)", x.without(0, 0), 20 + 5);
        due(34, "without(0, 1)", x.without(0, 1), 20 + 5);
        due(34, "without(0, 2)", x.without(0, 2), 30 + 5);
        due(34, "without(0, 3)", x.without(0, 3), -1);
        due(34, "without(0, -1)", x.without(0, -1), -1);
        due(34, "without(1, 0)", x.without(1, 0), -1);
        due(34, "BIDS stay", x.take(0), 40);
    }

    private static void guess() {
        RoadBoards x = with("board 10;bidder 6 1;bidder 9 0;sort 1 3 2;sort 1 7 1;sort 0 99 9;");
        // next: 3 or more beats 3 (0 is the lesser): 2 * (60 - 30); 7: less by 10.
        due(35, "guess(0, 0, false)", x.guess(0, 0, false), 3);
        due(35, "guess(0, 0, true)", x.guess(0, 0, true), 60);
        // 1 against a BID of 99 for sure.
        due(35, "guess(0, 1, false)", x.guess(0, 1, false), 0);
        due(35, "guess(0, 1, true)", x.guess(0, 1, true), 0);
        x.rule(0, 0, 0);
        due(35, "own", x.guess(0, 0, false), 3);
        due(35, "own", x.guess(0, 0, true), 60);
        x.rule(0, 0, 4);
        // A BAR of 4: BIDS of 3 fall; 4 wins 2 parts of 3.
        due(35, "own with a BAR", x.guess(0, 0, false), 4);
        due(35, "own with a BAR", x.guess(0, 0, true), 40);
        // BIDS of 3 (1 part) or 5 (2 parts): 3 gains 60 once, 5 gains 40 thrice.
        RoadBoards y = with("board 10;bidder 9 1;bidder 9 0;sort 1 3 1;sort 1 5 2;way own;",
            "board 1;bidder 99 1;bidder 9 0;sort 1 98 1;extra 0 0 more 999;mark 1 1;",
            "board 1;bidder 9 0;bidder 99 1;sort 0 98 1;extra 1 0 more 999;way own;");
        due(35, "two thresholds", y.guess(0, 0, false), 5);
        due(35, "two thresholds", y.guess(0, 0, true), 120);
        due(35, "98 is enough for the lesser", y.guess(1, 0, false), 98);
        due(35, "the other one needs 99", y.guess(2, 1, false), 99);
        due(35, "the other one needs 99", y.guess(2, 1, true), 999);
        due(35, "guess(0, 2)", x.guess(0, 2, false), -4000000000000000000L);
        due(35, "guess(0, -1)", x.guess(0, -1, true), -4000000000000000000L);
        due(35, "guess(1, 0)", x.guess(1, 0, false), -4000000000000000000L);
    }

    private static void pair() {
        RoadBoards x = with("board 10;board 4;bidder 7 7;bidder 6 6;bidder 3 3;");
        // Both bid 3, as 2 does, and are the lesser ones: 0 pays 30, 1 pays 12.
        due(36, "pair(0, 0, 1, 1)", x.pair(0, 0, 1, 1), 3);
        due(36, "pair(0, 0, 1, 2)", x.pair(0, 0, 1, 2), 3);
        due(36, "pair(0, 0, 1, 0)", x.pair(0, 0, 1, 0), 70 - 30 + 24 - 12);
        due(36, "pair(0, 1, 0, 1)", x.pair(0, 1, 0, 1), 3);
        // 1 and 2 against 7: 1 stands on BOARD 1 for 4 alone.
        due(36, "pair(0, 2, 1, 0)", x.pair(0, 2, 1, 0), 20);
        due(36, "pair(0, 2, 1, 1)", x.pair(0, 2, 1, 1), 1);
        due(36, "pair(0, 2, 1, 2)", x.pair(0, 2, 1, 2), 0);
        due(36, "BIDS stay", x.about(0, 30), 7);
        due(36, "pair(0, 1, 1, 0)", x.pair(0, 1, 1, 0), -100000);
        due(36, "pair(0, 0, 3, 0)", x.pair(0, 0, 3, 0), -100000);
        due(36, "pair(0, -1, 0, 0)", x.pair(0, -1, 0, 0), -100000);
        due(36, "pair(0, 0, 1, 3)", x.pair(0, 0, 1, 3), -100000);
        due(36, "pair(0, 0, 1, -1)", x.pair(0, 0, 1, -1), -100000);
        due(36, "pair(1, 0, 1, 0)", x.pair(1, 0, 1, 0), -100000);
        // A BAR of 5: 0 and 1 pay 5 for each that passes.
        x.rule(0, 1, 5);
        due(36, "with a BAR", x.pair(0, 0, 1, 0), 70 - 50 + 24 - 20);
        due(36, "with a BAR", x.pair(0, 0, 1, 1), 5);
        due(36, "with a BAR", x.pair(0, 0, 1, 2), 5);
        due(36, "with a BAR", x.pair(0, 1, 2, 0), 24 - 20);
        due(36, "with a BAR", x.pair(0, 1, 2, 1), 5);
        due(36, "with a BAR", x.pair(0, 1, 2, 2), 0);
        // Against 98 of a lesser one 99 is needed.
        RoadBoards z = with("board 1;bidder 1 98;bidder 1 1;bidder 1 1;extra 1 0 more 500;extra 2 0 more 900;way own;");
        due(36, "99", z.pair(0, 1, 2, 0), 901 - 99);
        due(36, "99", z.pair(0, 1, 2, 1), 0);
        due(36, "99", z.pair(0, 1, 2, 2), 99);
        due(36, "1 is the lesser of two who bid 1", z.pair(0, 0, 1, 0), 500);
        due(36, "1 is the lesser of two who bid 1", z.pair(0, 0, 1, 1), 0);
        due(36, "1 is the lesser of two who bid 1", z.pair(0, 0, 1, 2), 1);
        RoadBoards w = with("board 1;bidder 1 98;bidder 1 1;bidder 1 1;extra 1 0 more 900;extra 2 0 more 500;way own;");
        due(36, "99 of the lesser", w.pair(0, 1, 2, 0), 901 - 99);
        due(36, "99 of the lesser", w.pair(0, 1, 2, 1), 99);
        due(36, "99 of the lesser", w.pair(0, 1, 2, 2), 0);
        // Nothing is gained: the least row.
        RoadBoards y = with("board 10;bidder 0 7;bidder 0 6;");
        for (int what = 0; what < 3; what++) due(36, "pair", y.pair(0, 0, 1, what), 0);
    }

    private static void tells() {
        RoadBoards x = with("board 10;board 4;bidder 7 1;bidder 5 1;bidder 3 1;extra 0 1 more 20;");
        // Worths 70 48; 50 20; 30 12. Truly: 1 on 0, 0 on 1 is 98; 0 on 0, 1 on 1 is 90.
        due(37, "tells 7, board", x.tells(0, 0, 7, true), 1);
        due(37, "tells 7", x.tells(0, 0, 7, false), 48 - (62 - 50));
        // Told 20: 200 + 20 against 100 + 50: BOARD 0, worth 70, pays 62 - 20.
        due(37, "tells 20, board", x.tells(0, 0, 20, true), 0);
        due(37, "tells 20", x.tells(0, 0, 20, false), 70 - 42);
        due(37, "tells 0, board", x.tells(0, 0, 0, true), 1);
        due(37, "tells 0", x.tells(0, 0, 0, false), 36);
        due(37, "without a BOARD", x.tells(0, 2, 3, true), -1);
        due(37, "without a BOARD", x.tells(0, 2, 3, false), 0);
        due(37, "tells(0, 0, 100)", x.tells(0, 0, 100, false), -100000);
        due(37, "tells(0, 0, -1)", x.tells(0, 0, -1, true), -100000);
        due(37, "tells(0, 3, 1)", x.tells(0, 3, 1, true), -100000);
        due(37, "tells(0, -1, 1)", x.tells(0, -1, 1, true), -100000);
        due(37, "tells(1, 0, 1)", x.tells(1, 0, 1, false), -100000);
        due(37, "VALUE stays", x.about(0, 20), 7);
    }

    private static void climb() {
        RoadBoards x = with("board 1;board 1;bidder 6 1;bidder 5 1;bidder 2 1;extra 0 1 less 4;extra 1 1 less 3;");
        // Worths 6 2; 5 2; 2 2. Wants {0} {0} {0, 1}: 0 at 1: {0} {0} {1}; .. 0 at 3: {0}, {0, 1}, {1};
        // three want {0, 1}: both 1 more: 4 and 1: {0}, {0, 1}, {1}: 5 and 2: {0}, nothing, nothing.
        int[][] prices = {{0, 0}, {1, 0}, {2, 0}, {3, 0}, {4, 1}, {5, 2}, {5, 2}};
        for (int r = 0; r < prices.length; r++) {
            due(38, "climb(0, " + r + ", 0)", x.climb(0, r, 0), prices[r][0]);
            due(38, "climb(0, " + r + ", 1)", x.climb(0, r, 1), prices[r][1]);
        }
        due(38, "climb(0, 999, 0)", x.climb(0, 999, 0), 5);
        due(38, "climb(0, 1000, 0)", x.climb(0, 1000, 0), -1);
        due(38, "climb(0, -1, 0)", x.climb(0, -1, 0), -1);
        due(38, "climb(0, 1, 2)", x.climb(0, 1, 2), -1);
        due(38, "climb(0, 1, -1)", x.climb(0, 1, -1), -1);
        due(38, "climb(1, 1, 0)", x.climb(1, 1, 0), -1);
        due(39, "climbs(0)", x.climbs(0), 5);
        due(39, "climbs(1)", x.climbs(1), -1);
        due(38, "PRICES stay", x.judged(0), 1);
        // It ends behind 999 ROUNDS, or not.
        RoadBoards y = with("board 0;bidder 0 1;bidder 0 1;extra 0 0 more 999;extra 1 0 more 999;",
            "board 10;bidder 1 1;bidder 1 1;extra 0 0 more 990;extra 1 0 more 990;", "board 5;bidder 9 9;");
        due(39, "999 ROUNDS", y.climbs(0), 999);
        due(38, "999 ROUNDS", y.climb(0, 999, 0), 999);
        due(39, "1000 ROUNDS", y.climbs(1), -1);
        due(38, "1000 ROUNDS", y.climb(1, 999, 0), 999);
        due(39, "no ROUND", y.climbs(2), 0);
        // Of two sets of one BOARD the least first: one after the other.
        RoadBoards z = with("board 5;board 0;bidder 1 1;bidder 1 1;bidder 0 1;bidder 0 1;extra 2 1 more 5;extra 3 1 more 5;");
        due(38, "BOARD 0 first", z.climb(0, 5, 0), 5);
        due(38, "BOARD 0 first", z.climb(0, 5, 1), 0);
        due(38, "then BOARD 1", z.climb(0, 6, 1), 1);
        due(39, "one after the other", z.climbs(0), 10);
    }

    private static void images() {
        RoadBoards x = with("board 5;bidder 4 3;bidder 3 2;");
        due(41, "image(3)", x.image(3), false);
        due(41, "image(-1)", x.image(-1), false);
        due(42, "again(0)", x.again(0), false);
        x.price(0, 0, 20);
        x.feed(0x78202020, 0, 0, 0, 0);
        due(41, "image(0)", x.image(0), true);
        due(42, "again(1)", x.again(1), false);
        x.end(0);
        due(4, "sale(-1)", x.sale(-1), -1);
        x.bid(0, 0, 1);
        x.rule(0, 0, 2);
        x.price(0, 0, 15);
        due(41, "image(2)", x.image(2), true);
        Texts.put(x, "board 1;bidder 1 1;");
        due(4, "sale(-1)", x.sale(-1), 1);
        due(42, "again(0)", x.again(0), true);
        due(42, "count()", x.count(), 1);
        due(42, "BID", x.about(0, 30), 3);
        due(42, "WAY", x.about(0, 2), 1);
        due(42, "BAR", x.about(0, 3), 0);
        due(42, "FAULT", x.fault(0), 0);
        due(42, "place", x.fault(1), -1);
        due(42, "PRICE", x.judged(0), -1);
        due(42, "the tape", x.end(20), 20);
        due(42, "again(2)", x.again(2), true);
        due(42, "FAULT", x.fault(0), 5);
        due(42, "place", x.fault(1), 0);
        due(42, "BID", x.about(0, 30), 1);
        due(42, "PRICE", x.judged(0), -1);
        due(42, "the tape", x.end(1), -1);
        // Once more the first one: it stayed, and what is done to the state does not touch it.
        due(42, "again(0)", x.again(0), true);
        due(42, "the tape is read", x.sale(-1), -1);
        due(42, "FAULT", x.fault(0), 1);
        due(42, "again(0)", x.again(0), true);
        due(42, "FAULT", x.fault(0), 0);
        due(42, "again(3)", x.again(3), false);
        due(42, "again(-1)", x.again(-1), false);
    }
}
