/** The boundaries in Terms 3 and 4 and promises 19 to 32: BEST and its prices, chances, DAYS, neighbours, COME, IN TURNS. */
public final class BoundariesOfWorthsTest {
    private static final int LOW = Sentences.LOW;
    private static final int HIGH = Sentences.HIGH;
    private static final int[] NO_SALES = {-1, -2, 1, 2, 3, LOW, HIGH};
    private static final int NOTHING = -100000;
    private static final int NOT_STANDING = -1000000;
    /** VALUES 7 .. 1 and PASSES 6 .. 1: BEST is 42 + 30 + 20 + 12 + 6 + 2 = 112. */
    private static final String FULL = "board 6;board 5;board 4;board 3;board 2;board 1;"
        + "bidder 7 1;bidder 6 1;bidder 5 1;bidder 4 1;bidder 3 1;bidder 2 1;bidder 1 1;";

    private static Sentences s;

    public static void main(String[] args) throws Exception {
        s = new Sentences();
        best();
        bestAsked();
        even();
        truly();
        price();
        judged();
        parts();
        taken();
        high();
        days();
        dayAsked();
        spent();
        beside();
        come();
        comeAsked();
        spared();
        breaks();
        s.finish();
    }

    private static void dueRow(String when, RoadBoards x, int all, int... who) {
        s.due(when + ": best(0, 0)", x.best(0, 0), all);
        for (int j = 0; j < who.length; j++) s.due(when + ": best(0, " + (10 + j) + ")", x.best(0, 10 + j), who[j]);
    }

    private static void best() {
        s.says("Terms 3", "BEST: BIDDERS on BOARDS, each on one at most, nobody must stand, so that all WORTHS together are most");
        dueRow("one BIDDER, three BOARDS", s.with("board 3;board 2;board 1;bidder 9 1;"), 27, 0, -1, -1);
        dueRow("two BIDDERS, one BOARD", s.with("board 3;bidder 8 1;bidder 9 1;"), 27, 1);
        dueRow("all BOARDS, all but one BIDDER", s.with(FULL), 112, 0, 1, 2, 3, 4, 5);
        RoadBoards most = s.with("board 99;board 99;board 99;bidder 99 1;bidder 99 1;bidder 99 1;bidder 99 1;"
            + "extra 0 2 more 999;extra 1 1 more 999;extra 2 0 more 999;");
        dueRow("most", most, 3 * 10800, 2, 1, 0);
        s.says("Terms 3", "of several the least row (of BOARDS from 0 on, who stands there; nobody counts as the greatest)");
        dueRow("alike", s.with("board 3;board 3;bidder 2 1;bidder 2 1;bidder 2 1;"), 12, 0, 1);
        dueRow("worth nothing", s.with("board 0;board 0;board 0;bidder 0 0;bidder 0 0;"), 0, 0, 1, -1);
        dueRow("nobody last", s.with("board 3;board 3;bidder 2 1;"), 6, 0, -1);
        dueRow("nobody ahead where it is worth more", s.with("board 3;board 3;bidder 2 1;extra 0 1 more 1;"), 7, -1, 0);
        // 0 is worth nothing anywhere; 1 is worth as much on BOARD 0 as on BOARD 1.
        dueRow("0 first", s.with("board 3;board 3;bidder 0 1;bidder 2 1;"), 6, 0, 1);
        dueRow("0 on the last", s.with("board 4;board 3;bidder 0 1;bidder 2 1;"), 8, 1, 0);
    }

    private static void bestAsked() {
        s.says("Promise 19", "what 0: all WORTHS together, 1: those of THEY STAND together, 10 + j: who has BOARD j.");
        RoadBoards x = s.with("board 3;board 2;board 2;bidder 9 0;bidder 8 0;");
        s.due("nobody stands", x.best(0, 1), 0);
        x.bid(0, 1, 5);
        s.due("1 alone stands", x.best(0, 1), 24);
        x.bid(0, 0, 4);
        s.due("1, 0 stand", x.best(0, 1), 24 + 18);
        x.bid(0, 0, 5);
        s.due("0, 1 stand", x.best(0, 1), 27 + 16);
        x.rule(0, 1, 6);
        s.due("below the BAR", x.best(0, 1), 0);
        s.due("BEST asks for no BIDS", x.best(0, 0), 27 + 16);
        s.says("Promise 19", "NONE: nobody, there is none such, or for another what.");
        s.due("nobody", x.best(0, 12), -1);
        for (int what : new int[] {-1, 2, 9, 13, 15, 16, 20, LOW, HIGH, LOW + 10}) s.due("best(0, " + what + ")", x.best(0, what), -1);
        for (int n : NO_SALES) {
            for (int what : new int[] {0, 1, 10}) s.due("best(" + n + ", " + what + ")", x.best(n, what), -1);
        }
        RoadBoards six = s.with(FULL);
        s.due("best(0, 15)", six.best(0, 15), 5);
        s.due("best(0, 16)", six.best(0, 16), -1);
    }

    private static void even() {
        s.says("Terms 3", "EVEN PRICES: of BOARDS, none below 0");
        RoadBoards one = s.with("board 9;board 9;bidder 5 1;");
        for (int j = 0; j < 2; j++) {
            s.due("LEAST of BOARD " + j, one.even(0, j, false), 0);
            s.due("MOST of BOARD " + j, one.even(0, j, true), 0);
        }
        RoadBoards zero = s.with("board 0;bidder 0 1;");
        s.due("LEAST of what is worth nothing", zero.even(0, 0, false), 0);
        s.due("MOST of what is worth nothing", zero.even(0, 0, true), 0);
        s.says("Terms 3", "LEAST of a BOARD: what is worth more altogether, at most, if there were two of it; MOST: what is worth less, if there were none.");
        RoadBoards x = s.with(FULL);
        // Two of j: those from j + 1 on each stand one better. None of j: each from j on one worse, the last one nowhere.
        int[] least = {21, 15, 10, 6, 3, 1};
        int[] most = {27, 20, 14, 9, 5, 2};
        for (int j = 0; j < 6; j++) {
            s.due("LEAST of BOARD " + j, x.even(0, j, false), least[j]);
            s.due("MOST of BOARD " + j, x.even(0, j, true), most[j]);
        }
        RoadBoards alone = s.with("board 9;bidder 5 1;");
        s.due("LEAST, nobody else", alone.even(0, 0, false), 0);
        s.due("MOST, nobody else", alone.even(0, 0, true), 45);
        s.says("Promise 20", "LEAST, or (most) MOST, of a BOARD. NONE: there is none such (of either).");
        for (boolean b : new boolean[] {false, true}) {
            for (int j : new int[] {-1, 6, 7, LOW, HIGH}) s.due("even(0, " + j + ", " + b + ")", x.even(0, j, b), -1);
            s.due("even(0, 1, " + b + ")", alone.even(0, 1, b), -1);
            for (int n : NO_SALES) s.due("even(" + n + ", 0, " + b + ")", x.even(n, 0, b), -1);
        }
    }

    private static void truly() {
        s.says("Promise 21", "TRULY (0 without a BOARD in BEST). NONE: there is none such (of either).");
        RoadBoards x = s.with(FULL);
        int[] pays = {21, 15, 10, 6, 3, 1, 0};
        for (int i = 0; i < 7; i++) s.due("truly(0, " + i + ")", x.truly(0, i), pays[i]);
        for (int i : new int[] {-1, 7, 8, LOW, HIGH}) s.due("truly(0, " + i + ")", x.truly(0, i), -1);
        for (int n : NO_SALES) s.due("truly(" + n + ", 0)", x.truly(n, 0), -1);
        RoadBoards y = s.with("board 9;board 5;bidder 5 1;bidder 5 1;", "board 9;bidder 5 1;bidder 5 1;", "board 9;bidder 5 1;");
        s.due("BOARD 0 keeps 1 from 4 * 5", y.truly(0, 0), 20);
        s.due("BOARD 1 keeps 0 from nothing", y.truly(0, 1), 0);
        s.due("as much worth", y.truly(1, 0), 45);
        s.due("without a BOARD", y.truly(1, 1), 0);
        s.due("alone", y.truly(2, 0), 0);
        s.due("truly(2, 1)", y.truly(2, 1), -1);
    }

    private static void price() {
        s.says("Terms 3", "PRICES are told of BOARDS, 0 .. 9999 (0 at first).");
        RoadBoards x = s.with("board 99;board 99;bidder 99 1;extra 0 0 more 198;");
        // Worth 9999 on BOARD 0, 9801 on BOARD 1, which nobody has.
        s.due("0 at first", x.judged(0), -1);
        s.due("price(0, 0, 198)", x.price(0, 0, 198), true);
        s.due("198 more for BOARD 0", x.judged(0), -1);
        s.due("price(0, 0, 199)", x.price(0, 0, 199), true);
        s.due("199 more for BOARD 0", x.judged(0), 0);
        s.due("price(0, 1, 9999)", x.price(0, 1, 9999), true);
        s.due("price(0, 0, 9999)", x.price(0, 0, 9999), true);
        s.due("9999 for 9999", x.judged(0), 101);
        s.says("Promise 22", "PRICE of a BOARD from now on: true; false: there is none such (of either), or another number.");
        for (int p : new int[] {-1, 10000, 10001, LOW, HIGH}) {
            s.due("price(0, 1, " + p + ")", x.price(0, 1, p), false);
            s.due("PRICE is as it was", x.judged(0), 101);
        }
        s.due("price(0, 1, 0)", x.price(0, 1, 0), true);
        s.due("PRICE is 0", x.judged(0), 0);
        s.due("price(0, 0, 0)", x.price(0, 0, 0), true);
        s.due("PRICES are 0", x.judged(0), -1);
        s.due("price(0, 0, -1)", x.price(0, 0, -1), false);
        s.due("price(0, 0, 10000)", x.price(0, 0, 10000), false);
        for (int j : new int[] {-1, 2, 5, 6, LOW, HIGH}) s.due("price(0, " + j + ", 7)", x.price(0, j, 7), false);
        for (int n : NO_SALES) s.due("price(" + n + ", 0, 7)", x.price(n, 0, 7), false);
        s.due("PRICES are 0", x.judged(0), -1);
        RoadBoards six = s.with(FULL);
        s.due("price(0, 5, 7)", six.price(0, 5, 7), true);
        s.due("price(0, 6, 7)", six.price(0, 6, 7), false);
    }

    private static void dueJudged(String when, String text, int want, int... prices) {
        RoadBoards x = s.with(text);
        for (int j = 0; j < prices.length; j++) x.price(0, j, prices[j]);
        s.due(when, x.judged(0), want);
    }

    private static void judged() {
        s.says("Terms 3", "JUDGED: the first BIDDER who with these would rather have another BOARD, or none, or one, than he has in BEST");
        String two = "board 5;board 3;bidder 4 1;bidder 2 1;"; // worths 20 12; 10 6
        dueJudged("as good for 1", two, -1, 4, 0);
        dueJudged("better for 1", two, 1, 3, 0);
        dueJudged("as good for 0", two, -1, 8, 0);
        dueJudged("better for 0", two, 0, 9, 0);
        dueJudged("none is as good for 1", two, -1, 10, 6);
        dueJudged("none is better for 1", two, 1, 11, 7);
        dueJudged("none is better for both", two, 0, 21, 13);
        String one = "board 5;bidder 3 1;bidder 2 1;"; // worths 15; 10
        dueJudged("one is as good as none for 1", one, -1, 10);
        dueJudged("one is better than none for 1", one, 1, 9);
        dueJudged("none is as good for 0", one, -1, 15);
        dueJudged("none is better for 0", one, 0, 16);
        s.says("Terms 3", "or the first BOARD that nobody has there, and costs more than 0.");
        String empty = "board 5;board 3;board 3;bidder 4 1;";
        dueJudged("0 at first", empty, -1);
        dueJudged("1 for BOARD 1", empty, 101, 0, 1, 0);
        dueJudged("1 for BOARD 2", empty, 102, 0, 0, 1);
        dueJudged("1 for both", empty, 101, 0, 1, 1);
        dueJudged("1 for who has BOARD 0", empty, -1, 1, 0, 0);
        dueJudged("a BIDDER goes first", empty, 0, 9, 0, 1);
        s.says("Promise 23", "JUDGED: the BIDDER, or 100 + the BOARD. NONE: neither (PRICES are EVEN), or there is no such SALE.");
        String last = "board 1;board 1;board 1;board 1;board 1;board 1;bidder 1 1;extra 0 5 more 9;";
        dueJudged("BOARD 0", last, 100, 1);
        dueJudged("BOARD 4", last, 104, 0, 0, 0, 0, 1);
        dueJudged("BOARD 5", "board 1;board 1;board 1;board 1;board 1;board 1;bidder 1 1;", 105, 0, 0, 0, 0, 0, 9999);
        dueJudged("LEAST ones", FULL, -1, 21, 15, 10, 6, 3, 1);
        dueJudged("MOST ones", FULL, -1, 27, 20, 14, 9, 5, 2);
        dueJudged("below the LEAST", FULL, 6, 20, 14, 9, 5, 2, 0);
        dueJudged("above the MOST", FULL, 5, 28, 21, 15, 10, 6, 3);
        for (int n : NO_SALES) s.due("judged(" + n + ")", s.with(two).judged(n), -1);
    }

    private static void parts() {
        s.says("Promise 24", "PARTS that are one. NONE: there is none such.");
        RoadBoards x = s.with("board 9;bidder 1 1;", "board 9;bidder 1 1;bidder 1 1;sort 1 5 3;sort 1 6 4;",
            "board 9;" + "bidder 0 0;".repeat(7) + sorts(7, "99 9"));
        s.due("no SORTS", x.parts(0), 1);
        s.due("3 + 4", x.parts(1), 7);
        s.due("27 by 27, seven times", x.parts(2), 10460353203L);
        for (int n : new int[] {-1, 3, LOW, HIGH}) s.due("parts(" + n + ")", x.parts(n), -1);
        s.due("no SALES", new RoadBoards().parts(0), -1);
    }

    private static String sorts(int bidders, String which) {
        StringBuilder text = new StringBuilder();
        for (int i = 0; i < bidders; i++) text.append(("sort " + i + " " + which + ";").repeat(3));
        return text.toString();
    }

    private static void taken() {
        s.says("Terms 4", "each bids his VALUE then (BIDS of others stay)");
        RoadBoards x = s.with("board 10;bidder 3 9;bidder 4 2;sort 0 5 1;sort 0 0 2;way own;");
        // 5 of one part; of two parts 0 bids nothing and 1 stands for his BID of 2.
        s.due("taken(0, 0)", x.taken(0, 0), 50 + 2 * 20);
        s.due("taken(0, 2)", x.taken(0, 2), 50 + 2 * 20);
        s.due("taken(0, 3)", x.taken(0, 3), 50);
        s.due("taken(0, 5)", x.taken(0, 5), 50);
        s.due("taken(0, 6)", x.taken(0, 6), 0);
        s.due("taken(0, 99)", x.taken(0, 99), 0);
        s.says("Terms 4", "TAKEN with a BAR: TAKE on the whole, in PARTS, by the WAY.");
        x.rule(0, 1, 99);
        s.due("next: 2 behind 5, 1 at least", x.taken(0, 0), 20 + 2 * 10);
        s.due("next: the BAR", x.taken(0, 2), 20 + 2 * 20);
        s.due("next: the BAR alone", x.taken(0, 5), 50);
        x.rule(0, 2, 99);
        s.due("harm: 2 behind 5, nobody behind 2", x.taken(0, 0), 20);
        s.due("harm: the BAR", x.taken(0, 1), 20 + 2 * 10);
        s.due("the SALE's BAR stays", x.about(0, 3), 99);
        RoadBoards most = s.with("board 99;board 99;board 99;board 99;board 99;board 99;" + "bidder 0 0;".repeat(7)
            + sorts(6, "99 9"));
        // Six have three SORTS each, the seventh does not bid.
        s.due("most, own", most.rule(0, 0, 0), true);
        s.due("most, own", most.taken(0, 0), 387420489L * 58806);
        s.due("most, BAR 99", most.taken(0, 99), 387420489L * 58806);
        RoadBoards all = s.with("board 99;" + "bidder 0 0;".repeat(7) + sorts(7, "99 9"));
        s.due("all rows of seven", all.taken(0, 0), 10460353203L * 9801);
        s.due("all rows of seven, BAR 99", all.taken(0, 99), 10460353203L * 9801);
        s.due("the least of 0 .. 99", all.high(0), 0);
        s.says("Promise 25", "TAKEN with a BAR, in PARTS. NONE: there is none such (of either).");
        for (int bar : new int[] {-1, 100, LOW, HIGH}) s.due("taken(0, " + bar + ")", x.taken(0, bar), -1);
        for (int n : NO_SALES) s.due("taken(" + n + ", 0)", x.taken(n, 0), -1);
    }

    private static void high() {
        s.says("Terms 4", "HIGH BAR: that of 0 .. 99 with which most is TAKEN; of several the least.");
        s.due("99 alone", s.with("board 9;bidder 1 99;").high(0), 99);
        s.due("1 alone: 0 takes as much as 1", s.with("board 9;bidder 1 1;").high(0), 0);
        s.due("1 alone by harm: 1 takes more", s.with("board 9;bidder 1 1;way harm;").high(0), 1);
        s.due("own: 0 takes all", s.with("board 9;bidder 1 99;way own;").high(0), 0);
        s.due("nobody bids", s.with("board 9;bidder 9 0;").high(0), 0);
        s.due("nothing is paid", s.with("board 0;bidder 9 9;").high(0), 0);
        s.due("6 twice, 12 once: the least", s.with("board 9;board 9;bidder 1 12;bidder 1 6;").high(0), 6);
        s.due("5 twice, 11 once", s.with("board 9;board 9;bidder 1 11;bidder 1 5;").high(0), 11);
        s.due("by SORTS: 4 always, 8 half", s.with("board 9;bidder 1 50;sort 0 4 1;sort 0 8 1;").high(0), 4);
        s.due("by SORTS: 4 always, 9 half", s.with("board 9;bidder 1 50;sort 0 4 1;sort 0 9 1;").high(0), 9);
        s.due("the SALE's own BAR counts for nothing", s.with("board 9;bidder 1 7;bar 90;").high(0), 7);
        s.due("one passes", s.with("board 1;bidder 1 7;").high(0), 7);
        s.due("one passes, by harm", s.with("board 1;bidder 1 1;way harm;").high(0), 1);
        s.due("as much behind him: 0 takes all", s.with("board 9;bidder 1 9;bidder 1 9;").high(0), 0);
        s.due("as much behind him, harm", s.with("board 9;bidder 1 9;bidder 1 9;way harm;").high(0), 0);
        s.due("8 behind 9: 9 takes more", s.with("board 9;bidder 1 9;bidder 1 8;").high(0), 9);
        String seven = "bidder 1 %;bidder 1 6;bidder 1 5;bidder 1 4;bidder 1 3;bidder 1 2;bidder 1 1;";
        s.due("above six others", s.with("board 9;" + seven.replace("%", "99")).high(0), 99);
        // 2 .. 6 and 7 on six BOARDS: BAR 4 takes 4 * 4, BAR 3 takes 3 * 5.
        s.due("the fourth of seven", s.with("board 9;".repeat(6) + seven.replace("%", "7") + "way harm;").high(0), 4);
        // 4 of two parts, 9 of three, 3 behind them: BAR 4 takes 20 each time, BAR 9 takes 27. Of 4 and 1 parts: 20 and 9.
        String by = "board 1;bidder 1 50;bidder 1 3;";
        s.due("9 of three parts", s.with(by + "sort 0 4 2;sort 0 9 3;").high(0), 9);
        s.due("9 of one part", s.with(by + "sort 0 4 4;sort 0 9 1;").high(0), 4);
        // 0 stands first by his MARK, but goes first where the BAR is above 2.
        s.due("the first one goes first", s.with("board 9;bidder 1 2;bidder 1 8;mark 0 9;").high(0), 8);
        // 10 by 10 parts, 20 by one: all bid 10 in 10^7 parts, one bids 20 in 7 * 10^6. BAR 20 takes 20 for 10 in these, and
        // nothing for 10 in those; the last row of all, 9^7 parts, tips it.
        StringBuilder last = new StringBuilder("board 1;" + "bidder 0 0;".repeat(7));
        for (int i = 0; i < 7; i++) last.append("sort % 10 1;sort % 20 1;sort % 10 9;".replace("%", "" + i));
        s.due("the last of 2187 rows", s.with(last.toString()).high(0), 0);
        // By harm, SCORES 2, 2, 1: BAR 0 takes 6 + 1, BAR 1 takes 6 + 2, BAR 2 takes 8.
        s.due("the least of 1 and 2", s.with("board 4;board 2;bidder 1 1;bidder 1 2;bidder 1 1;mark 2 2;way harm;").high(0), 1);
        // Each time anew.
        RoadBoards three = s.with("board 9;bidder 1 99;", "board 9;bidder 1 99;way own;", "board 1;bidder 1 5;");
        int[] highs = {99, 0, 5};
        for (int n = 0; n < 6; n++) s.due("high(" + n % 3 + ")", three.high(n % 3), highs[n % 3]);
        s.says("Promise 26", "HIGH BAR. NONE: there is none such.");
        RoadBoards x = s.with("board 9;bidder 1 7;");
        for (int n : NO_SALES) s.due("high(" + n + ")", x.high(n), -1);
        s.due("no SALES", new RoadBoards().high(0), -1);
    }

    private static void days() {
        s.says("Terms 4", "who has less in his PURSE than his PAY stands no more, from that day on");
        RoadBoards x = s.with("board 10;bidder 9 5;bidder 9 3;purse 0 30;purse 1 29;", "board 10;bidder 9 5;bidder 9 3;purse 0 29;purse 1 10;",
            "board 0;bidder 9 9;purse 0 0;");
        // 0 pays 30 and has just that; then 1 stands for 10, till he has 9.
        s.due("30 for 30", x.day(0, 1, 20), 0);
        s.due("30 for 30", x.day(0, 1, 10), 0);
        s.due("0 is left", x.day(0, 2, 20), 1);
        s.due("29, then 19", x.day(0, 2, 11), 19);
        s.due("19, then 9", x.day(0, 3, 11), 9);
        s.due("9 for 10", x.day(0, 4, 20), -1);
        s.due("9 stay", x.day(0, 4, 11), 9);
        s.due("nothing is taken", x.day(0, 4, 0), 0);
        s.due("29 for 30", x.day(1, 1, 20), 1);
        s.due("29 stay", x.day(1, 1, 10), 29);
        // Though 10 would be enough for 0 alone, he stands no more.
        s.due("never again", x.day(1, 2, 20), -1);
        s.due("an empty PURSE for a PAY of 0", x.day(2, 60, 20), 0);
        s.says("Terms 4", "the first such one by BOARDS first, and that day is sold anew without him, and so on");
        RoadBoards y = s.with("board 10;board 5;bidder 9 3;bidder 9 5;bidder 9 2;purse 0 10;purse 1 29;purse 2 5;");
        // 1 on BOARD 0 for 30 and 0 on BOARD 1 for 10: 1 goes. 0 on BOARD 0 for 20: goes. 2 for 10: goes.
        s.due("nobody is left", y.day(0, 1, 20), -1);
        for (int i = 0; i < 3; i++) s.due("spent on day 1", y.spent(0, i), 1);
        RoadBoards z = s.with("board 10;board 5;bidder 9 3;bidder 9 5;bidder 9 2;purse 0 9;purse 1 29;purse 2 9;way own;");
        // 1 goes first (50), then 0 (30), then 2 (20).
        s.due("nobody is left", z.day(0, 1, 0), 0);
        RoadBoards w = s.with("board 10;board 5;bidder 9 5;bidder 9 4;bidder 9 3;purse 0 39;purse 1 14;");
        // Both can't pay (40, 15). 0 goes first; then 1 has BOARD 0 for 30 and goes, too. 2 pays 10.
        s.due("2 alone", w.day(0, 1, 20), 2);
        s.due("spent(0, 1)", w.spent(0, 1), 1);
        RoadBoards v = s.with("board 10;board 5;bidder 9 5;bidder 9 4;bidder 9 3;purse 0 35;purse 1 14;way harm;");
        // 0 pays 5 * 4 + 5 * 3 = 35, 1 pays 15: 1 alone goes; then 0 pays 15 and 2 nothing.
        s.due("0 stays", v.day(0, 1, 20), 0);
        s.due("0 has paid 15", v.day(0, 1, 10), 20);
        s.due("2 stands where 1 did", v.day(0, 1, 21), 2);
        s.due("1 has paid nothing", v.day(0, 1, 11), 14);
        StringBuilder poor = new StringBuilder("board 9;" + "bidder 9 9;".repeat(7));
        for (int i = 0; i < 7; i++) poor.append("purse ").append(i).append(" 8;");
        RoadBoards seven = s.with(poor.toString());
        s.due("seven go on one day", seven.day(0, 1, 20), -1);
        for (int i = 0; i < 7; i++) s.due("spent(0, " + i + ")", seven.spent(0, i), 1);
    }

    private static void dayAsked() {
        s.says("Terms 4", "(Days 1 .. 60.)");
        RoadBoards x = s.with("board 10;board 5;bidder 9 5;bidder 9 1;purse 0 600;");
        s.due("the first one", x.day(0, 1, 10), 590);
        s.due("the last one", x.day(0, 60, 10), 0);
        s.due("the last one", x.day(0, 60, 0), 15);
        for (int d : new int[] {0, -1, 61, 62, LOW, HIGH}) {
            for (int what : new int[] {0, 10, 20}) s.due("day(0, " + d + ", " + what + ")", x.day(0, d, what), -1);
        }
        s.says("Promise 27", "what 0: TAKE, 10 + i: PURSE of BIDDER i behind it, 20 + j: who stood on BOARD j. NONE: nobody, there is none such (of any), or for another what.");
        for (int what : new int[] {-1, 1, 2, 9, 12, 16, 17, 19, 22, 25, 26, 30, LOW, HIGH, LOW + 20}) {
            s.due("day(0, 1, " + what + ")", x.day(0, 1, what), -1);
        }
        for (int n : NO_SALES) {
            for (int what : new int[] {0, 10, 20}) s.due("day(" + n + ", 1, " + what + ")", x.day(n, 1, what), -1);
        }
        RoadBoards y = s.with(FULL);
        s.due("BOARD 5", y.day(0, 1, 25), 5);
        s.due("no BOARD 6", y.day(0, 1, 26), -1);
        s.due("BIDDER 6", y.day(0, 1, 16), 9999);
        s.due("no BIDDER 7", y.day(0, 1, 17), -1);
        s.due("BIDDER 0: 6 for 1", y.day(0, 1, 10), 9993);
        y.bid(0, 0, 0);
        s.due("nobody", y.day(0, 1, 26), -1);
        x.bid(0, 1, 0);
        s.due("nobody", x.day(0, 1, 21), -1);
        s.due("PURSES stay", x.about(0, 50), 600);
    }

    private static void spent() {
        s.says("Promise 28", "from which on a BIDDER stands no more for want of what he would pay. NONE: none up to 60, or there is none such (of either).");
        int[][] purses = {{600, -1}, {599, 60}, {590, 60}, {589, 59}, {10, 2}, {9, 1}, {0, 1}, {9999, -1}};
        for (int[] p : purses) {
            s.due("10 a day of " + p[0], s.with("board 10;bidder 9 5;purse 0 " + p[0] + ";").spent(0, 0), p[1]);
        }
        RoadBoards x = s.with("board 10;bidder 9 5;bidder 9 1;purse 0 0;purse 1 0;");
        s.due("at once", x.spent(0, 0), 1);
        s.due("and he, too", x.spent(0, 1), 1);
        x.rule(0, 1, 2);
        s.due("below the BAR he never stood", x.spent(0, 1), -1);
        RoadBoards y = s.with("board 10;bidder 9 5;bidder 9 1;purse 1 0;");
        s.due("behind the last BOARD he never stood", y.spent(0, 1), -1);
        for (int i : new int[] {-1, 2, 6, 7, LOW, HIGH}) s.due("spent(0, " + i + ")", x.spent(0, i), -1);
        for (int n : NO_SALES) s.due("spent(" + n + ", 0)", x.spent(n, 0), -1);
    }

    private static void dueBeside(String when, String text, int all, int... who) {
        RoadBoards x = s.with(text);
        s.due(when + ": beside(0, 0)", x.beside(0, 0), all);
        for (int j = 0; j < who.length; j++) {
            s.due(when + ": beside(0, " + (10 + j) + ")", x.beside(0, 10 + j), who[j] < 0 ? NOTHING : who[j]);
        }
    }

    private static void beside() {
        s.says("Terms 4", "BESIDE: as BEST, with FRIENDS' worth added for each two BOARDS k, k + 1 on which both stand, and no FOES on such.");
        String three = "board 3;board 3;board 3;bidder 2 1;bidder 2 1;";
        dueBeside("no FRIENDS", three, 12, 0, 1, -1);
        dueBeside("FRIENDS", three + "friend 0 1 more 1;", 13, 0, 1, -1);
        dueBeside("who hurt one another stand apart", three + "friend 0 1 less 1;", 12, 0, -1, 1);
        dueBeside("FOES stand apart", three + "foe 1 0;", 12, 0, -1, 1);
        dueBeside("FRIENDS on one BOARD", "board 3;bidder 2 1;bidder 2 1;friend 0 1 more 9;", 6, 0);
        String two = "board 3;board 3;bidder 2 1;bidder 2 1;";
        dueBeside("hurt as much as he is worth", two + "friend 0 1 less 6;", 6, 0, 1);
        dueBeside("hurt more than he is worth", two + "friend 0 1 less 7;", 6, 0, -1);
        dueBeside("FOES: one alone", two + "foe 0 1;", 6, 0, -1);
        // Help that is worth more than the better BOARD; on both sides of one.
        dueBeside("0 between", "board 9;board 1;board 1;bidder 1 1;bidder 1 1;bidder 1 1;friend 0 1 more 9;friend 0 2 more 9;", 29, 1, 0, 2);
        String chain = "board 0;".repeat(6) + "bidder 0 0;".repeat(6) + "friend 0 5 more 999;friend 5 1 more 999;friend 1 4 more 999;"
            + "friend 4 2 more 999;friend 2 3 more 999;";
        dueBeside("five times 999", chain, 4995, 0, 5, 1, 4, 2, 3);
        // BEST knows neither FRIENDS nor FOES, whatever was asked ahead.
        RoadBoards after = s.with(two + "friend 0 1 less 7;", two + "foe 0 1;");
        for (int n = 0; n < 2; n++) {
            s.due("beside(" + n + ", 0)", after.beside(n, 0), 6);
            s.due("best(" + n + ", 0)", after.best(n, 0), 12);
            s.due("beside(" + n + ", 11)", after.beside(n, 11), NOTHING);
            s.due("tells(" + n + ", 1, 2, true)", after.tells(n, 1, 2, true), 1);
            s.due("beside(" + n + ", 0)", after.beside(n, 0), 6);
            s.due("truly(" + n + ", 1)", after.truly(n, 1), 0);
        }
        s.says("Promise 29", "BESIDE, what as best(), but not 1. -100000: nobody, there is none such, or for another what.");
        RoadBoards x = s.with(three);
        s.due("nobody", x.beside(0, 12), NOTHING);
        for (int what : new int[] {-1, 1, 2, 9, 13, 15, 16, 20, LOW, HIGH, LOW + 10}) s.due("beside(0, " + what + ")", x.beside(0, what), NOTHING);
        for (int n : NO_SALES) {
            for (int what : new int[] {0, 1, 10}) s.due("beside(" + n + ", " + what + ")", x.beside(n, what), NOTHING);
        }
        s.due("BOARD 5", s.with(FULL).beside(0, 15), 5);
        s.due("no BOARD 6", s.with(FULL).beside(0, 16), NOTHING);
    }

    private static void come() {
        s.says("Terms 4", "COME: one BIDDER more, with a VALUE and a BID (MARK 1, no EXTRA): who stands elsewhere then, or no more, or now");
        RoadBoards x = s.with("board 3;board 2;bidder 9 5;bidder 9 4;bidder 9 3;mark 1 2;way harm;");
        // SCORES 8 of 1, 5 of 0, 3 of 2.
        s.due("9 goes first", x.come(0, 99, 9), 0b1011);
        s.due("8 behind 1, who is the lesser", x.come(0, 99, 8), 0b1001);
        s.due("6 ahead of 0", x.come(0, 99, 6), 0b1001);
        s.due("5 behind 0: nowhere", x.come(0, 99, 5), 0);
        s.due("0 does not bid", x.come(0, 99, 0), 0);
        x.bid(0, 2, 0);
        x.bid(0, 0, 0);
        s.due("on the last BOARD, nobody moves", x.come(0, 99, 1), 0b1000);
        s.due("1 moves", x.come(0, 99, 99), 0b1010);
        x.rule(0, 2, 2);
        s.due("below the BAR", x.come(0, 99, 1), 0);
        s.due("at the BAR", x.come(0, 99, 2), 0b1000);
        RoadBoards seven = s.with("board 1;".repeat(6) + "bidder 9 9;".repeat(7));
        s.due("an eighth, ahead of all", seven.come(0, 99, 10), 0b10111111);
        s.due("an eighth, behind all", seven.come(0, 99, 9), 0);
        s.says("Terms 4", "nobody, if he would stand and his GAIN were below 0 (he stays away)");
        RoadBoards y = s.with("board 10;bidder 9 5;");
        s.due("5 for 5", y.come(0, 5, 6), 0b11);
        s.due("5 for 4", y.come(0, 4, 6), 0);
        y.rule(0, 0, 0);
        s.due("own: 6 for 6", y.come(0, 6, 6), 0b11);
        s.due("own: 6 for 5", y.come(0, 5, 6), 0);
        y.bid(0, 0, 0);
        y.rule(0, 2, 0);
        s.due("nothing for nothing", y.come(0, 0, 1), 0b10);
        y.rule(0, 2, 1);
        s.due("1 for nothing", y.come(0, 0, 1), 0);
    }

    private static void comeAsked() {
        s.says("Promise 30", "COME: BIDDERS (bits). NONE: there is none such, or other numbers.");
        RoadBoards x = s.with("board 10;bidder 9 5;");
        s.due("come(0, 99, 99)", x.come(0, 99, 99), 0b11);
        s.due("come(0, 0, 0)", x.come(0, 0, 0), 0);
        for (int k : new int[] {-1, 100, 101, LOW, HIGH}) {
            s.due("come(0, " + k + ", 9)", x.come(0, k, 9), -1);
            s.due("come(0, 9, " + k + ")", x.come(0, 9, k), -1);
        }
        for (int n : NO_SALES) s.due("come(" + n + ", 9, 9)", x.come(n, 9, 9), -1);
        s.due("he does not stay", x.about(0, 1), 1);
        s.due("he does not stay", x.stands(0, 0), 0);
    }

    private static void spared() {
        s.says("Terms 4", "for n days each of them pays BAR, or 1 if that is more, for each that passes");
        RoadBoards x = s.with("board 10;bidder 9 5;");
        // One alone, next: he pays that now, too.
        for (int bar = 0; bar <= 5; bar++) {
            x.rule(0, 1, bar);
            s.due("alone, next, BAR " + bar, x.spared(0, 0), 0);
        }
        int[] harm = {-10, 0, 0, 0};
        for (int bar = 0; bar <= 3; bar++) {
            x.rule(0, 2, bar);
            s.due("alone, harm, BAR " + bar, x.spared(0, 0), harm[bar]);
        }
        int[] own = {40, 40, 30, 20, 10, 0};
        for (int bar = 0; bar <= 5; bar++) {
            x.rule(0, 0, bar);
            s.due("alone, own, BAR " + bar, x.spared(0, 0), own[bar]);
        }
        s.says("Terms 4", "who stands on BOARD p now stands on BOARD (p + d), remainder by n, on day d, from 0 on");
        RoadBoards y = s.with("board 9;board 5;board 4;board 1;bidder 9 3;bidder 8 2;bidder 7 1;bidder 9 0;extra 1 0 less 70;extra 2 3 more 999;way own;");
        // Three stand, BOARD 3 is none of theirs. Each pays 18 in turns.
        // 0: 81 + 45 + 36 - 18 - 3 * (81 - 27); 1: 2 + 40 + 32 - 18 - 3 * (40 - 10); 2: 63 + 35 + 28 - 18 - 3 * (28 - 4).
        int[] spared = {-18, -34, 36};
        for (int i = 0; i < 3; i++) s.due("spared(0, " + i + ")", y.spared(0, i), spared[i]);
        s.says("Promise 31", "SPARED. -1000000: he does not stand, or there is none such (of either).");
        s.due("does not bid", y.spared(0, 3), NOT_STANDING);
        for (int i : new int[] {-1, 4, 6, 7, LOW, HIGH}) s.due("spared(0, " + i + ")", y.spared(0, i), NOT_STANDING);
        for (int n : NO_SALES) s.due("spared(" + n + ", 0)", y.spared(n, 0), NOT_STANDING);
        x.rule(0, 0, 6);
        s.due("below the BAR", x.spared(0, 0), NOT_STANDING);
        RoadBoards few = s.with("board 9;bidder 9 3;bidder 9 3;");
        s.due("behind the last BOARD", few.spared(0, 1), NOT_STANDING);
        s.due("on it", few.spared(0, 0), 18);
    }

    private static void breaks() {
        s.says("Terms 4", "BREAKS: the first BIDDER of those to whom it is below 0.");
        RoadBoards x = s.with("board 10;bidder 9 5;way harm;");
        s.due("-10", x.breaks(0), 0);
        s.due("-1", s.with("board 1;bidder 9 5;way harm;").spared(0, 0), -1);
        s.due("-1", s.with("board 1;bidder 9 5;way harm;").breaks(0), 0);
        x.rule(0, 2, 1);
        s.due("0", x.breaks(0), -1);
        RoadBoards y = s.with("board 9;board 5;board 4;board 1;bidder 9 3;bidder 8 2;bidder 7 1;bidder 9 0;extra 1 0 less 70;way own;");
        s.due("-18 and -34", y.breaks(0), 0);
        RoadBoards z = s.with("board 9;board 5;bidder 9 0;bidder 9 1;bidder 0 0;bidder 9 2;");
        // 3 pays 9 on BOARD 0, gains 72; 81 + 45 - 14 - 144 = -32. 1 gains 40: 112 - 80.
        s.due("the last BIDDER", z.breaks(0), 3);
        s.says("Promise 32", "BREAKS. NONE: nobody, or there is none such.");
        z.bid(0, 3, 0);
        z.bid(0, 1, 0);
        s.due("nobody stands", z.breaks(0), -1);
        for (int n : NO_SALES) s.due("breaks(" + n + ")", x.breaks(n), -1);
    }
}
