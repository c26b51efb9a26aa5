/** The boundaries in Terms 5 and promises 33 to 42: marks, guesses, pairs, what is told, prices that climb, images; and 512 calls. */
public final class BoundariesOfGuessesTest {
    private static final int LOW = Sentences.LOW;
    private static final int HIGH = Sentences.HIGH;
    private static final int[] NO_SALES = {-1, -2, 1, 2, 3, LOW, HIGH};
    private static final int NOTHING = -100000;
    private static final long NO_GUESS = -4000000000000000000L;
    private static final String OK = "board 9;bidder 8 7;";

    private static Sentences s;

    public static void main(String[] args) throws Exception {
        s = new Sentences();
        mark();
        without();
        guess();
        guessAsked();
        pair();
        pairAsked();
        tells();
        tellsAsked();
        climb();
        climbSets();
        climbAsked();
        climbs();
        image();
        again();
        againOfAll();
        calls();
        s.finish();
    }

    private static void mark() {
        s.says("Terms 5", "HIGH MARK of a BIDDER: that of 1 .. 9 with which TAKE is most; of several the least.");
        RoadBoards x = s.with("board 10;bidder 9 99;bidder 9 1;");
        // A SCORE of m behind him makes 0 pay 10 m.
        s.due("the greater the more", x.mark(0, 1), 9);
        s.due("1 behind him, by whatever MARK", x.mark(0, 0), 1);
        x.bid(0, 1, 0);
        s.due("does not bid", x.mark(0, 1), 1);
        x.bid(0, 0, 0);
        s.due("nobody bids", x.mark(0, 0), 1);
        // Own: 3 and 4 on BOARDS of 10 and 5; 4 stands first from a MARK of 2 on.
        RoadBoards y = s.with("board 10;board 5;bidder 9 3;bidder 9 4;mark 0 2;mark 1 9;way own;");
        s.due("2 .. 9 are alike", y.mark(0, 1), 2);
        s.due("his own MARK stays", y.about(0, 41), 9);
        s.due("9 of 1 is more than any of 0", y.mark(0, 0), 1);
        s.says("Promise 33", "HIGH MARK. NONE: there is none such (of either).");
        for (int i : new int[] {-1, 2, 6, 7, LOW, HIGH}) s.due("mark(0, " + i + ")", x.mark(0, i), -1);
        for (int n : NO_SALES) s.due("mark(" + n + ", 0)", x.mark(n, 0), -1);
        RoadBoards seven = s.with("board 1;" + "bidder 1 1;".repeat(7));
        s.due("mark(0, 6)", seven.mark(0, 6), 1);
        s.due("mark(0, 7)", seven.mark(0, 7), -1);
    }

    private static void without() {
        s.says("Terms 5", "WITHOUT a BIDDER: TAKE, if he did not bid.");
        RoadBoards x = s.with("board 10;bidder 9 5;bidder 9 3;bidder 9 0;");
        s.due("without who stands", x.without(0, 0), 10);
        s.due("without the next one", x.without(0, 1), 10);
        s.due("without who does not bid", x.without(0, 2), 30);
        s.due("BIDS stay", x.take(0), 30);
        x.rule(0, 1, 4);
        s.due("without who stands, the others below the BAR", x.without(0, 0), 0);
        s.due("without one below the BAR", x.without(0, 1), 40);
        s.due("without the only one", s.with(OK).without(0, 0), 0);
        s.due("with one more BOARD", s.with("board 10;board 10;bidder 9 5;bidder 9 3;bidder 9 2;way own;").without(0, 0), 50);
        s.says("Promise 34", "WITHOUT. NONE: there is none such (of either).");
        for (int i : new int[] {-1, 3, 6, 7, LOW, HIGH}) s.due("without(0, " + i + ")", x.without(0, i), -1);
        for (int n : NO_SALES) s.due("without(" + n + ", 0)", x.without(n, 0), -1);
        RoadBoards seven = s.with("board 1;" + "bidder 1 1;".repeat(7));
        s.due("without(0, 6)", seven.without(0, 6), 1);
        s.due("without(0, 7)", seven.without(0, 7), -1);
    }

    private static void dueGuess(String when, RoadBoards x, int bidder, long bid, long gain) {
        s.due(when + ": the BID", x.guess(0, bidder, false), bid);
        s.due(when + ": the GAIN", x.guess(0, bidder, true), gain);
    }

    private static void guess() {
        s.says("Terms 5", "GUESS of a BIDDER: of BIDS 0 .. 99 that of the greatest GAIN on the whole, if others who have SORTS bid by chance");
        dueGuess("99 of a greater one", s.with("board 1;bidder 0 0;bidder 0 0;extra 0 0 more 999;sort 1 99 9;"), 0, 99, 8100);
        dueGuess("98 of a lesser one", s.with("board 1;bidder 0 0;bidder 0 0;extra 1 0 more 999;sort 0 98 9;"), 1, 99, 901 * 9);
        dueGuess("99 of a lesser one", s.with("board 1;bidder 0 0;bidder 0 0;extra 1 0 more 999;sort 0 99 9;"), 1, 0, 0);
        dueGuess("others without SORTS bid as they do", s.with("board 1;bidder 9 0;bidder 0 5;"), 0, 5, 4);
        dueGuess("nobody else", s.with("board 10;bidder 9 0;"), 0, 1, 80);
        dueGuess("nobody else, harm", s.with("board 10;bidder 9 0;way harm;"), 0, 1, 90);
        dueGuess("a SORT of 0 does not bid", s.with("board 10;bidder 9 0;bidder 9 9;sort 1 0 2;"), 0, 1, 160);
        dueGuess("a SORT below the BAR does not bid", s.with("board 10;bidder 9 0;bidder 9 9;sort 1 7 2;bar 8;"), 0, 8, 20);
        dueGuess("a SORT at the BAR does", s.with("board 10;bidder 9 9;bidder 9 0;sort 0 8 2;bar 8;"), 1, 9, 20);
        s.says("Terms 5", "(his own SORTS count for nothing); of several the least (PARTS: CHANCES of the others, all together, are one)");
        String two = "board 10;bidder 5 0;bidder 9 9;sort 1 3 1;sort 1 5 1;";
        // 3 and 4 gain 20 of one part; from 5 on 0 of the other one, too.
        dueGuess("3 .. 99 are alike", s.with(two), 0, 3, 20);
        dueGuess("with SORTS of his own", s.with(two + "sort 0 99 9;sort 0 1 9;"), 0, 3, 20);
        dueGuess("nothing is gained", s.with("board 10;bidder 0 50;bidder 9 9;sort 1 3 1;"), 0, 0, 0);
        dueGuess("5 for 5 gains nothing", s.with("board 10;bidder 5 50;bidder 9 9;sort 1 5 1;"), 0, 0, 0);
        StringBuilder most = new StringBuilder("board 99;" + "bidder 99 0;".repeat(7) + "extra 0 0 more 999;");
        for (int i = 1; i < 7; i++) most.append(("sort " + i + " 1 9;").repeat(3));
        dueGuess("27 by 27, six times", s.with(most.toString()), 0, 1, 387420489L * 10701);
        // 3 gains 60 of one part, 5 gains 40 of all three, 4 gains 50 of one.
        dueGuess("own", s.with("board 10;bidder 9 1;bidder 9 0;sort 1 3 1;sort 1 5 2;way own;"), 0, 5, 120);
        dueGuess("own", s.with("board 10;bidder 9 1;bidder 9 0;sort 1 3 3;sort 1 5 1;way own;"), 0, 3, 180);
        // What was asked ahead counts for nothing.
        RoadBoards after = s.with("board 10;bidder 0 50;bidder 9 50;way own;");
        s.due("high(0)", after.high(0), 0);
        dueGuess("nothing is gained", after, 0, 0, 0);
        RoadBoards full = s.with("board 9;board 8;board 7;board 6;board 5;board 4;" + "bidder 9 9;".repeat(6) + "bidder 9 0;sort 0 9 2;");
        dueGuess("behind six on six BOARDS", full, 6, 0, 0);
    }

    private static void guessAsked() {
        s.says("Promise 35", "GUESS, the BID, or (gain) the GAIN on the whole, in PARTS. -4000000000000000000: there is none such (of either).");
        RoadBoards x = s.with(OK);
        for (boolean gain : new boolean[] {false, true}) {
            for (int i : new int[] {-1, 1, 6, 7, LOW, HIGH}) s.due("guess(0, " + i + ")", x.guess(0, i, gain), NO_GUESS);
            for (int n : NO_SALES) s.due("guess(" + n + ", 0)", x.guess(n, 0, gain), NO_GUESS);
        }
        RoadBoards seven = s.with("board 1;" + "bidder 9 1;".repeat(7));
        dueGuess("the last one", seven, 6, 2, 8);
        s.due("no BIDDER 7", seven.guess(0, 7, false), NO_GUESS);
        s.due("BIDS stay", seven.about(0, 36), 1);
    }

    private static void duePair(String when, String text, int a, int b, int... want) {
        RoadBoards x = s.with(text);
        for (int what = 0; what < 3; what++) {
            s.due(when + ": pair(0, " + a + ", " + b + ", " + what + ")", x.pair(0, a, b, what), want[what]);
            s.due(when + ": pair(0, " + b + ", " + a + ", " + what + ")", x.pair(0, b, a, what), want[what]);
        }
    }

    private static void pair() {
        s.says("Terms 5", "PAIR of two BIDDERS: of BIDS 0 .. 99 of both, all others as they are, those of the greatest GAINS of both together");
        String against = "board 1;bidder 0 0;bidder 0 0;bidder 0 99;extra 0 0 more 500;extra 1 0 more 999;way own;";
        duePair("99 of a greater one", against, 0, 1, 900, 0, 99);
        duePair("99 of a lesser one", "board 1;bidder 0 99;bidder 9 0;bidder 0 0;extra 2 0 more 999;way own;", 1, 2, 0, 0, 0);
        duePair("98 of a lesser one", "board 1;bidder 0 98;bidder 9 0;bidder 0 0;extra 2 0 more 999;way own;", 1, 2, 900, 0, 99);
        duePair("99 of the lesser one", against.replace("999", "400").replace("500", "999"), 0, 1, 900, 99, 0);
        // Against 5 and 3: 0 by 5 gains 40, and 1 by 5 gains 20 beside him; 0 alone by 3 gains 30.
        duePair("two among four", "board 10;board 5;bidder 9 0;bidder 9 0;bidder 0 5;bidder 0 3;", 0, 1, 40 + 20, 5, 5);
        duePair("two among seven", "board 9;board 8;board 7;board 6;board 5;board 4;" + "bidder 9 9;".repeat(5) + "bidder 9 0;bidder 9 0;", 5, 6, 32, 0, 1);
        // By harm: 1 on BOARD 0 for 9, 0 on BOARD 1 for nothing: 81 + 50.
        duePair("the other one ahead", "board 10;board 1;bidder 0 0;bidder 9 0;extra 0 1 more 50;way harm;", 0, 1, 131, 1, 2);
        duePair("both by 1", "board 10;board 10;bidder 9 5;bidder 9 5;", 0, 1, 160, 1, 1);
        // BAR 4: both by 4. BAR 9: nothing is left.
        duePair("both by the BAR", "board 10;board 10;bidder 9 5;bidder 9 5;bar 4;", 0, 1, 100, 4, 4);
        duePair("the BAR leaves nothing", "board 10;board 10;bidder 9 5;bidder 9 5;bar 9;", 0, 1, 0, 0, 0);
        s.says("Terms 5", "of several the least row (the lesser BIDDER's first)");
        duePair("either alone", "board 10;bidder 9 5;bidder 9 5;", 0, 1, 80, 0, 1);
        duePair("either alone, harm", "board 10;bidder 9 5;bidder 9 5;way harm;", 0, 1, 90, 0, 1);
        duePair("the lesser one is worth more", "board 10;bidder 9 5;bidder 8 5;", 0, 1, 80, 1, 0);
        duePair("nothing is gained", "board 10;bidder 0 5;bidder 0 5;", 0, 1, 0, 0, 0);
        RoadBoards after = s.with("board 10;board 10;bidder 9 5;bidder 9 5;", "board 10;bidder 0 5;bidder 0 5;");
        for (int what = 0; what < 3; what++) {
            s.due("something is gained", after.pair(0, 0, 1, what), what == 0 ? 160 : 1);
            s.due("nothing is gained then", after.pair(1, 0, 1, what), 0);
        }
        duePair("the last two", "board 10;" + "bidder 0 0;".repeat(5) + "bidder 5 0;bidder 9 0;", 5, 6, 80, 0, 1);
    }

    private static void pairAsked() {
        s.says("Promise 36", "-100000: there are none such, they are one, or for another what.");
        RoadBoards x = s.with("board 10;bidder 9 5;bidder 9 5;");
        for (int what = 0; what < 3; what++) {
            s.due("they are one", x.pair(0, 0, 0, what), NOTHING);
            s.due("they are one", x.pair(0, 1, 1, what), NOTHING);
            for (int i : new int[] {-1, 2, 6, 7, LOW, HIGH}) {
                s.due("pair(0, 0, " + i + ", " + what + ")", x.pair(0, 0, i, what), NOTHING);
                s.due("pair(0, " + i + ", 1, " + what + ")", x.pair(0, i, 1, what), NOTHING);
                s.due("pair(0, " + i + ", " + i + ", " + what + ")", x.pair(0, i, i, what), NOTHING);
            }
            for (int n : NO_SALES) s.due("pair(" + n + ", 0, 1, " + what + ")", x.pair(n, 0, 1, what), NOTHING);
        }
        for (int what : new int[] {-1, 3, 4, 10, LOW, HIGH}) s.due("pair(0, 0, 1, " + what + ")", x.pair(0, 0, 1, what), NOTHING);
        s.due("BIDS stay", x.about(0, 30), 5);
        s.due("BIDS stay", x.about(0, 31), 5);
    }

    private static void dueTells(String when, RoadBoards x, int bidder, int value, int board, int profit) {
        s.due(when + ": tells(0, " + bidder + ", " + value + ", true)", x.tells(0, bidder, value, true), board);
        s.due(when + ": tells(0, " + bidder + ", " + value + ", false)", x.tells(0, bidder, value, false), profit);
    }

    private static void tells() {
        s.says("Terms 5", "and is really worth what he is by his own VALUE: his PROFIT so (0 without a BOARD)");
        RoadBoards x = s.with("board 10;bidder 5 1;bidder 7 1;");
        dueTells("less than 7", x, 0, 6, -1, 0);
        dueTells("as much as 7, and the lesser BIDDER", x, 0, 7, 0, -20);
        dueTells("more than 7", x, 0, 99, 0, -20);
        dueTells("nothing", x, 0, 0, -1, 0);
        dueTells("as much as 5, but the greater BIDDER", x, 1, 5, -1, 0);
        dueTells("more than 5", x, 1, 6, 0, 20);
        dueTells("what is true", x, 1, 7, 0, 20);
        dueTells("most", x, 1, 99, 0, 20);
        s.due("VALUE stays", x.about(0, 20), 5);
        RoadBoards y = s.with("board 9;bidder 5 1;");
        dueTells("nothing, but nobody else is there", y, 0, 0, 0, 45);
        RoadBoards z = s.with("board 9;bidder 5 1;bidder 4 1;extra 0 0 less 999;");
        // By 99 he were worth 891 - 999, so nothing; in truth nothing, too. 1 is worth 36.
        dueTells("0 at least", z, 0, 99, -1, 0);
    }

    private static void tellsAsked() {
        s.says("Promise 37", "PROFIT, or (board) the BOARD (NONE: none), if a BIDDER TELLS a VALUE, 0 .. 99. -100000: there is none such (of any).");
        RoadBoards x = s.with("board 10;bidder 5 1;bidder 7 1;");
        for (boolean board : new boolean[] {false, true}) {
            for (int v : new int[] {-1, 100, 101, LOW, HIGH}) s.due("tells(0, 0, " + v + ")", x.tells(0, 0, v, board), NOTHING);
            for (int i : new int[] {-1, 2, 6, 7, LOW, HIGH}) s.due("tells(0, " + i + ", 5)", x.tells(0, i, 5, board), NOTHING);
            for (int n : NO_SALES) s.due("tells(" + n + ", 0, 5)", x.tells(n, 0, 5, board), NOTHING);
        }
        RoadBoards six = s.with("board 1;board 1;board 1;board 1;board 1;board 1;" + "bidder 1 1;".repeat(7));
        dueTells("BOARD 5", six, 5, 1, 5, 0);
        dueTells("nowhere", six, 6, 1, -1, 0);
        dueTells("more than the others: BOARD 5 in the least row, for what it is worth", six, 6, 2, 5, 0);
    }

    private static void climb() {
        s.says("Terms 5", "A BIDDER WANTS the BOARDS of which WORTH less price is greatest, if that is above 0.");
        RoadBoards x = s.with("board 1;bidder 5 1;bidder 5 1;");
        int[][] prices = {{0, 0}, {1, 1}, {4, 4}, {5, 5}, {6, 5}, {998, 5}, {999, 5}};
        for (int[] p : prices) s.due("climb(0, " + p[0] + ", 0)", x.climb(0, p[0], 0), p[1]);
        RoadBoards y = s.with("board 1;bidder 5 1;bidder 4 1;");
        s.due("4 are too many for 1", y.climb(0, 999, 0), 4);
        RoadBoards z = s.with("board 0;bidder 9 1;bidder 9 1;");
        s.due("who is worth nothing wants nothing", z.climb(0, 999, 0), 0);
        s.due("PRICES stay", x.judged(0), 1);
        RoadBoards w = s.with("board 1;board 0;bidder 1 1;bidder 1 1;extra 0 1 more 3;extra 1 1 more 3;");
        // Both want 1 alone for 3, till it costs 2: then 0 is as good.
        s.due("the lesser BOARD", w.climb(0, 999, 0), 0);
        s.due("the greater one", w.climb(0, 999, 1), 2);
    }

    private static void climbSets() {
        s.says("Terms 5", "of all sets of BOARDS to which more BIDDERS want nothing else than there are BOARDS in it");
        RoadBoards two = s.with("board 1;board 1;bidder 5 1;bidder 5 1;", "board 1;board 1;bidder 5 1;bidder 5 1;bidder 5 1;",
            "board 1;".repeat(6) + "bidder 2 1;".repeat(7));
        s.due("two want two", two.climb(0, 999, 0), 0);
        s.due("three want two", two.climb(1, 999, 0), 5);
        s.due("three want two", two.climb(1, 999, 1), 5);
        for (int j = 0; j < 6; j++) s.due("seven want six", two.climb(2, 1, j), 1);
        s.says("Terms 5", "that of the fewest BOARDS, of several the least (bits): all prices in it are 1 more.");
        RoadBoards x = s.with("board 5;board 5;board 5;bidder 1 1;bidder 1 1;bidder 1 1;bidder 0 1;bidder 0 1;"
            + "extra 0 2 less 5;extra 1 2 less 5;extra 2 2 less 5;extra 3 2 more 2;extra 4 2 more 2;");
        // Three want 0 or 1, two want 2: BOARD 2 first, up to 2; then 0 and 1 together, up to 5.
        int[][] prices = {{0, 0, 0}, {0, 0, 1}, {0, 0, 2}, {1, 1, 2}, {2, 2, 2}, {3, 3, 2}, {4, 4, 2}, {5, 5, 2}, {5, 5, 2}};
        for (int r = 0; r < prices.length; r++) {
            for (int j = 0; j < 3; j++) s.due("climb(0, " + r + ", " + j + ")", x.climb(0, r, j), prices[r][j]);
        }
        RoadBoards y = s.with("board 1;board 0;bidder 3 1;bidder 3 1;bidder 0 1;bidder 0 1;extra 2 1 more 2;extra 3 1 more 2;");
        int[][] alone = {{0, 0}, {1, 0}, {2, 0}, {3, 0}, {3, 1}, {3, 2}, {3, 2}};
        for (int r = 0; r < alone.length; r++) {
            for (int j = 0; j < 2; j++) s.due("climb(0, " + r + ", " + j + ")", y.climb(0, r, j), alone[r][j]);
        }
    }

    private static void climbAsked() {
        s.says("Promise 38", "CLIMB by so many ROUNDS, 0 .. 999, at most: price of a BOARD. NONE: there is none such (of any).");
        RoadBoards x = s.with("board 1;bidder 5 1;bidder 5 1;", "board 1;".repeat(6) + "bidder 2 1;".repeat(7),
            "board 10;bidder 1 1;bidder 1 1;extra 0 0 more 999;extra 1 0 more 999;");
        s.due("no ROUND", x.climb(0, 0, 0), 0);
        s.due("999 ROUNDS, and not at its end", x.climb(2, 999, 0), 999);
        s.due("998 ROUNDS", x.climb(2, 998, 0), 998);
        for (int r : new int[] {-1, 1000, 1001, LOW, HIGH}) s.due("climb(0, " + r + ", 0)", x.climb(0, r, 0), -1);
        for (int j : new int[] {-1, 1, 5, 6, LOW, HIGH}) s.due("climb(0, 1, " + j + ")", x.climb(0, 1, j), -1);
        s.due("BOARD 5", x.climb(1, 1, 5), 1);
        s.due("no BOARD 6", x.climb(1, 1, 6), -1);
        for (int n : new int[] {-1, -2, 3, LOW, HIGH}) s.due("climb(" + n + ", 1, 0)", x.climb(n, 1, 0), -1);
    }

    private static void climbs() {
        s.says("Promise 39", "How many ROUNDS till it ENDS. NONE: more than 999, or there is no such SALE.");
        String two = "board 10;bidder 1 1;bidder 1 1;extra 0 0 more %;extra 1 0 more %;";
        RoadBoards x = s.with(two.replace("%", "988"), two.replace("%", "989"), two.replace("%", "990"));
        s.due("998", x.climbs(0), 998);
        s.due("999", x.climbs(1), 999);
        s.due("1000", x.climbs(2), -1);
        for (int n : new int[] {-1, -2, 3, LOW, HIGH}) s.due("climbs(" + n + ")", x.climbs(n), -1);
        RoadBoards y = s.with("board 9;bidder 9 1;", "board 9;bidder 0 1;bidder 0 1;", "board 1;bidder 1 1;bidder 1 1;");
        s.due("one alone", y.climbs(0), 0);
        s.due("nobody wants anything", y.climbs(1), 0);
        s.due("one ROUND", y.climbs(2), 1);
        s.due("most", s.with("board 99;bidder 99 1;bidder 99 1;").climbs(0), -1);
    }

    private static void image() {
        s.says("Promise 41", "Image k (0 .. 2) is all that is told (the tape, the FAULT, too), as it is now: true; false for another k.");
        RoadBoards x = s.with(OK);
        for (int k : new int[] {-1, 3, 4, LOW, HIGH}) {
            s.due("image(" + k + ")", x.image(k), false);
            s.due("again(" + k + ")", x.again(k), false);
        }
        for (int k = 0; k < 3; k++) s.due("no image yet", x.again(k), false);
        for (int k = 0; k < 3; k++) {
            x.bid(0, 0, 10 + k);
            s.due("image(" + k + ")", x.image(k), true);
        }
        x.bid(0, 0, 50);
        s.due("image(3)", x.image(3), false);
        for (int k = 2; k >= 0; k--) {
            s.due("again(" + k + ")", x.again(k), true);
            s.due("BID", x.about(0, 30), 10 + k);
        }
        x.bid(0, 0, 60);
        s.due("image(1), once more", x.image(1), true);
        x.bid(0, 0, 70);
        int[] bids = {10, 60, 12};
        for (int k = 0; k < 3; k++) {
            s.due("again(" + k + ")", x.again(k), true);
            s.due("BID", x.about(0, 30), bids[k]);
        }
    }

    private static void again() {
        s.says("Promise 42", "All that is as image k has it (other images stay): true; false if there is none such.");
        RoadBoards x = new RoadBoards();
        s.due("image(2) of one that is told nothing", x.image(2), true);
        for (int k : new int[] {0, 1, 3, -1, LOW, HIGH}) s.due("again(" + k + ")", x.again(k), false);
        Texts.put(x, OK);
        x.sale(-1);
        Texts.put(x, "bar");
        x.sale(-1);
        x.feed(0, 0, 0, 0, 0);
        x.bid(0, 0, 33);
        // What is refused changes nothing.
        for (int k : new int[] {0, 1, 3, -1, LOW, HIGH}) s.due("again(" + k + ")", x.again(k), false);
        s.due("count()", x.count(), 1);
        s.due("BID", x.about(0, 30), 33);
        s.due("FAULT", x.fault(0), 1);
        s.due("place", x.fault(1), 3);
        s.due("the tape", x.end(20), 20);
        s.due("image(0)", x.image(0), true);
        s.due("again(2)", x.again(2), true);
        s.due("no SALES", x.count(), 0);
        s.due("no SALE 0", x.about(0, 0), -1);
        s.due("no FAULT", x.fault(0), 0);
        s.due("no place", x.fault(1), -1);
        s.due("no tape", x.end(1), -1);
        s.due("image 1 is none still", x.again(1), false);
        s.due("image 0 stays", x.again(0), true);
        s.due("count()", x.count(), 1);
        s.due("BID", x.about(0, 30), 33);
        s.due("FAULT", x.fault(0), 1);
        s.due("place", x.fault(1), 3);
        s.due("the tape", x.end(21), -1);
        s.due("the tape", x.end(20), 20);
        s.due("image 2 stays", x.again(2), true);
        s.due("count()", x.count(), 0);
    }

    private static void againOfAll() {
        s.says("Promise 42", "All that is as image k has it");
        RoadBoards x = s.with("board 9;bidder 5 4;bidder 3 2;", OK);
        x.price(0, 0, 30);
        Texts.put(x, "board 5;bidder 2 2;way own;");
        x.image(0);
        // All of it is changed, then it is as it was; twice, for an image stays what it is.
        for (int n = 0; n < 2; n++) {
            s.due("sale(-1)", x.sale(-1), 2);
            s.due("its WAY", x.about(2, 2), 0);
            Texts.put(x, "board 99;bidder 9 9;mark 0 9;");
            x.sale(0);
            x.rule(1, 2, 9);
            x.bid(1, 0, 1);
            x.price(0, 0, 1);
            x.feed(-1, -1, -1, -1, -1);
            x.sale(-5);
            s.due("again(0)", x.again(0), true);
            s.due("count()", x.count(), 2);
            s.due("PASS", x.about(0, 10), 9);
            s.due("BIDDERS", x.about(0, 1), 2);
            s.due("MARK", x.about(0, 40), 1);
            s.due("PRICE of 30: even", x.judged(0), -1);
            s.due("WAY", x.about(1, 2), 1);
            s.due("BAR", x.about(1, 3), 0);
            s.due("BID", x.about(1, 30), 7);
            s.due("the tape", x.end(28), -1);
            s.due("the tape", x.end(27), 27);
        }
        // All three SALES, with all that can be told of them.
        RoadBoards y = s.with(OK, OK, "board 3;board 3;bidder 2 1;bidder 2 1;bidder 2 1;purse 0 50;extra 0 0 more 5;sort 1 2 3;friend 0 2 more 7;foe 0 1;bar 1;");
        y.image(2);
        Texts.put(y, OK);
        y.sale(2);
        s.due("again(2)", y.again(2), true);
        s.due("PURSE", y.about(2, 50), 50);
        s.due("EXTRA", y.worth(2, 0, 0), 11);
        s.due("PARTS", y.parts(2), 3);
        s.due("FRIENDS", y.beside(2, 0), 24);
        s.due("FRIENDS and FOES", y.beside(2, 11), 2);
        s.due("BAR", y.about(2, 3), 1);
    }

    private static void calls() {
        s.says("What it is", "An object is used for at most 512 calls after it has been made");
        RoadBoards x = new RoadBoards();
        x.feed(0x626f6172, 0x6420393b, 0x62696464, 0x65722038, 0x20373b20);
        x.sale(-1);
        for (int n = 3; n <= 512; n += 2) {
            s.due("call " + n, x.bid(0, 0, n % 100), true);
            s.due("call " + (n + 1), x.about(0, 30), n % 100);
        }
    }
}
