import java.util.Arrays;

/** The boundaries in Terms 1 and promises 1 to 7 and 40: the tape, texts, FAULTS, what is told. */
public final class BoundariesOfTextsTest {
    private static final int LOW = Sentences.LOW;
    private static final int HIGH = Sentences.HIGH;
    private static final String OK = "board 9;bidder 8 7;";
    private static final String TWO = "board 9;board 8;bidder 7 6;bidder 5 4;";
    private static final String SIX = "board 9;board 9;board 9;board 9;board 9;board 9;";
    private static final String SEVEN = "bidder 1 1;".repeat(7);

    private static Sentences s;

    public static void main(String[] args) throws Exception {
        s = new Sentences();
        boards();
        bidders();
        ofBidders();
        ofTwo();
        tokens();
        linesAsTold();
        striking();
        faultOne();
        faultTwo();
        faultThree();
        faultFourAndFive();
        newObject();
        feed();
        end();
        sale();
        saleInPlace();
        noSuchSale();
        faultAsked();
        about();
        worth();
        count();
        s.finish();
    }

    /** The text has this FAULT at this place; 0, NONE: none. */
    private static void fault(String text, int fault, int place) {
        RoadBoards x = new RoadBoards();
        Texts.put(x, text);
        s.due("sale of <" + text + ">", x.sale(-1), fault == 0 ? 0 : -1);
        s.due("fault(0) of <" + text + ">", x.fault(0), fault);
        s.due("fault(1) of <" + text + ">", x.fault(1), place);
    }

    private static void fine(String text) { fault(text, 0, -1); }

    private static void told(String text, int what, int want) {
        s.due("about(0, " + what + ") of <" + text + ">", s.with(text).about(0, what), want);
    }

    private static void boards() {
        s.says("Terms 1", "A SALE has BOARDS, 1 to 6, from 0 on");
        fault("bidder 1 1;", 5, 11);
        told("board 3;bidder 1 1;", 0, 1);
        told("board 3;bidder 1 1;", 10, 3);
        told(SIX + "bidder 1 1;", 0, 6);
        told("board 9;board 8;board 7;board 6;board 5;board 4;bidder 1 1;", 15, 4);
        told("board 9;board 8;board 7;board 6;board 5;board 4;bidder 1 1;", 10, 9);
        fault(SIX + "board 9;bidder 1 1;", 3, 48);
        s.says("Terms 1", "each with PASS, 0 .. 99");
        told("board 0;bidder 1 1;", 10, 0);
        told("board 99;bidder 1 1;", 10, 99);
        fault("board 100;bidder 1 1;", 2, 6);
        fault("board 9999;bidder 1 1;", 2, 6);
        s.says("Terms 1", "none with more than the one ahead");
        fine("board 5;board 5;bidder 1 1;");
        fine("board 0;board 0;bidder 1 1;");
        fine("board 99;board 99;bidder 1 1;");
        fault("board 5;board 6;bidder 1 1;", 4, 14);
        fault("board 0;board 1;bidder 1 1;", 4, 14);
        fault("board 9;board 1;board 2;bidder 1 1;", 4, 22);
        fault("board 9;board 9;board 9;board 9;board 8;board 9;bidder 1 1;", 4, 46);
    }

    private static void bidders() {
        s.says("Terms 1", "BIDDERS, 1 to 7, from 0 on, with VALUE, 0 .. 99, BID, 0 .. 99");
        fault("board 1;", 5, 8);
        told("board 1;bidder 3 2;", 1, 1);
        told("board 1;" + SEVEN, 1, 7);
        fault("board 1;" + SEVEN + "bidder 1 1;", 3, 85);
        told("board 1;bidder 0 0;bidder 99 99;", 20, 0);
        told("board 1;bidder 0 0;bidder 99 99;", 30, 0);
        told("board 1;bidder 0 0;bidder 99 99;", 21, 99);
        told("board 1;bidder 0 0;bidder 99 99;", 31, 99);
        told("board 1;bidder 1 1;bidder 1 1;bidder 1 1;bidder 1 1;bidder 1 1;bidder 1 1;bidder 3 4;", 26, 3);
        told("board 1;bidder 1 1;bidder 1 1;bidder 1 1;bidder 1 1;bidder 1 1;bidder 1 1;bidder 3 4;", 36, 4);
        fault("board 1;bidder 100 1;", 2, 15);
        fault("board 1;bidder 1 100;", 2, 17);
        s.says("Terms 1", "MARK, 1 .. 9 (1 at first)");
        told(OK, 40, 1);
        told(OK + "mark 0 1;", 40, 1);
        told(OK + "mark 0 9;", 40, 9);
        fault(OK + "mark 0 0;", 2, 26);
        fault(OK + "mark 0 10;", 2, 26);
        s.says("Terms 1", "PURSE, 0 .. 9999 (9999 at first)");
        told(OK, 50, 9999);
        told(OK + "purse 0 0;", 50, 0);
        told(OK + "purse 0 9998;", 50, 9998);
        told(OK + "purse 0 5;purse 0 9999;", 50, 9999);
        fault(OK + "purse 0 10000;", 1, 27);
        s.says("Terms 1", "WAY: own, next or harm (next at first)");
        told(OK, 2, 1);
        told(OK + "way own;", 2, 0);
        told(OK + "way next;", 2, 1);
        told(OK + "way harm;", 2, 2);
        s.says("Terms 1", "BAR, 0 .. 99 (0 at first)");
        told(OK, 3, 0);
        told(OK + "bar 0;", 3, 0);
        told(OK + "bar 99;", 3, 99);
        fault(OK + "bar 100;", 2, 23);
    }

    private static void ofBidders() {
        s.says("Terms 1", "VALUE * PASS, and an EXTRA, -999 .. 999 (told for both; 0 at first), 0 at least");
        RoadBoards x = s.with("board 7;board 1;bidder 1 1;bidder 0 1;extra 0 0 less 6;extra 0 1 less 1;extra 1 0 more 999;",
            "board 7;board 1;bidder 1 1;bidder 99 1;extra 0 0 less 7;extra 0 1 less 2;extra 1 0 less 999;",
            "board 99;board 99;bidder 99 1;bidder 99 1;extra 0 0 more 999;extra 0 1 less 999;extra 1 1 less 0;");
        int[][][] worths = {{{1, 0}, {999, 0}}, {{0, 0}, {0, 99}}, {{10800, 8802}, {9801, 9801}}};
        for (int n = 0; n < 3; n++) {
            for (int i = 0; i < 2; i++) {
                for (int j = 0; j < 2; j++) s.due("worth(" + n + ", " + i + ", " + j + ")", x.worth(n, i, j), worths[n][i][j]);
            }
        }
        fault(OK + "extra 0 0 more 1000;", 2, 34);
        fault(OK + "extra 0 0 less 1000;", 2, 34);
        s.says("Terms 1", "SORTS of a BIDDER, at most 3");
        String three = "sort 0 5 1;sort 0 5 1;sort 0 5 1;";
        told(OK, 60, 0);
        told(OK + "sort 0 5 1;", 60, 1);
        told(OK + three, 60, 3);
        fault(OK + three + "sort 0 5 1;", 3, 52);
        told(OK + "bidder 1 1;" + three + three.replace(" 0 ", " 1 "), 61, 3);
        s.says("Terms 1", "VALUES that he may have, with CHANCES, 1 .. 9 (without any, VALUE for sure)");
        s.due("parts: none", s.with(OK).parts(0), 1);
        s.due("parts: 1", s.with(OK + "sort 0 0 1;").parts(0), 1);
        s.due("parts: 9", s.with(OK + "sort 0 99 9;").parts(0), 9);
        fault(OK + "sort 0 5 0;", 2, 28);
        fault(OK + "sort 0 5 10;", 2, 28);
        fault(OK + "sort 0 100 1;", 2, 26);
    }

    private static void ofTwo() {
        s.says("Terms 1", "to stand beside one another is worth so much more to both together, -999 .. 999 (0 at first)");
        String even = "board 500;".replace("500", "99") + "board 99;bidder 10 1;bidder 10 1;"; // worth 990 each
        s.due("0 at first", s.with(even).beside(0, 0), 1980);
        s.due("0 told", s.with(even + "friend 0 1 more 0;").beside(0, 0), 1980);
        s.due("999 more", s.with(even + "friend 0 1 more 999;").beside(0, 0), 2979);
        s.due("989 less: both still", s.with(even + "friend 1 0 less 989;").beside(0, 0), 991);
        s.due("999 less: one alone", s.with(even + "friend 1 0 less 999;").beside(0, 0), 990);
        s.due("999 less: nobody beside him", s.with(even + "friend 1 0 less 999;").beside(0, 11), -100000);
        fault(TWO + "friend 0 1 more 1000;", 2, TWO.length() + 16);
        fault(TWO + "friend 0 1 less 1000;", 2, TWO.length() + 16);
        s.says("Terms 1", "FOES may not.");
        s.due("foe", s.with(even + "foe 0 1;").beside(0, 0), 990);
        s.due("foe", s.with(even + "foe 1 0;").beside(0, 11), -100000);
        String seven = "board 2;board 1;" + "bidder 0 0;".repeat(5) + "bidder 9 0;bidder 9 0;";
        s.due("the last two", s.with(seven).beside(0, 0), 27);
        s.due("the last two are FOES", s.with(seven + "foe 5 6;").beside(0, 0), 18);
        s.due("the last two are FOES", s.with(seven + "foe 6 5;").beside(0, 11), 0);
        s.due("the last two are FRIENDS", s.with(seven + "friend 6 5 more 1;").beside(0, 0), 28);
        s.due("the last two are FRIENDS", s.with(seven + "friend 5 6 less 9;").beside(0, 0), 18);
    }

    private static void tokens() {
        s.says("Terms 1", "THE TAPE has at most 500 bytes.");
        String blanks = " ".repeat(475);
        told(OK + blanks + "bar 7;", 3, 7);
        fault(OK + blanks + "bar 7 ", 1, 500);
        fault(OK + blanks + "bar 7", 1, 499);
        fault(OK + blanks + "bar 7#", 1, 499);
        fault(" ".repeat(500), 5, 500);
        fault(";".repeat(500), 1, 0);
        fault("7;".repeat(250), 1, 0);
        s.says("Terms 1", "TOKENS, as long as they go, blanks (10, 32) between");
        for (int c = 0; c < 256; c++) {
            boolean digit = c >= '0' && c <= '9';
            boolean blank = c == 10 || c == 32;
            fault("board " + (char) c + " 9;bidder 1 1;", blank ? 0 : 1, blank ? -1 : digit ? 8 : 6);
            boolean good = digit || blank;
            fault("board 9" + (char) c + ";bidder 1 1;", good ? 0 : 1, good ? -1 : c == ';' ? 8 : 7);
        }
        fine("\n\n board  \n9\n;\n bidder\n1 \n1 ;\n");
        fault("boardboard 9;bidder 1 1;", 1, 0);
        fault("board 9;bidder 11;", 1, 17);
        s.says("Terms 1", "words, rows of letters a .. z");
        for (char c : "AZ`{@[".toCharArray()) {
            fault(OK + "bar" + c + " 1;", 1, 22);
            fault(OK + c + "bar 1;", 1, 19);
        }
        fault(OK + "bara 1;", 1, 19);
        fault(OK + "barz 1;", 1, 19);
        fault(OK + "ba r 1;", 1, 19);
        fault(OK + "ba", 1, 19);
        s.says("Terms 1", "NUMBERS, 1 to 4 digits");
        told("board 0;bidder 1 1;", 10, 0);
        told("board 0000;bidder 1 1;", 10, 0);
        told("board 0099;bidder 1 1;", 10, 99);
        told(OK + "purse 0000 0042;", 50, 42);
        fault("board 00009;bidder 1 1;", 1, 6);
        fault("board 4294967305;bidder 1 1;", 1, 6);
        fault("board ;bidder 1 1;", 1, 6);
        s.says("Terms 1", "; one byte.");
        fault("board 9;;bidder 1 1;", 1, 8);
        s.says("Terms 1", "A SALE's text: {LINE}.");
        fault("", 5, 0);
        fault(";", 1, 0);
    }

    /** Each LINE, each of its tokens: another one there, or the end there, is the first that can't go on. */
    private static void linesAsTold() {
        s.says("Terms 1", "LINE: ('board' NUMBER | 'bidder' NUMBER NUMBER | ('mark' | 'purse') NUMBER NUMBER | 'extra'");
        String[] lines = {"board 7 ;", "bidder 1 1 ;", "mark 0 1 ;", "purse 0 1 ;", "extra 0 0 more 1 ;", "extra 1 1 less 1 ;",
            "sort 0 1 1 ;", "friend 0 1 more 1 ;", "friend 0 1 less 1 ;", "foe 0 1 ;", "way own ;", "way next ;", "way harm ;",
            "bar 1 ;"};
        String[] others = {"board", "bar", "more", "less", "own", "harm", "zz", "1", "12345", ";", "#"};
        for (String line : lines) {
            fine(TWO + line);
            fine(TWO + line.replace(" ;", ";"));
            String[] told = line.split(" ");
            int place = TWO.length();
            for (int p = 0; p < told.length; p++) {
                String ahead = TWO + String.join(" ", Arrays.copyOf(told, p)) + (p > 0 ? " " : "");
                if (p > 0) fault(ahead, 1, place);
                for (String other : others) {
                    if (kindAt(p, other) != kindAt(p, told[p])) fault(ahead + other + " 1 ;", 1, place);
                }
                place += told[p].length() + 1;
            }
        }
    }

    private static int kindAt(int p, String token) {
        if (token.matches("[0-9]{1,4}")) return 1;
        if (token.equals(";")) return 2;
        if (token.matches("more|less")) return 3;
        if (token.matches("own|next|harm")) return 4;
        return p == 0 && token.matches("board|bidder|mark|purse|extra|sort|friend|foe|way|bar") ? 5 : 6;
    }

    private static void striking() {
        s.says("Terms 1", "Later ones strike, but sorts.");
        told(OK + "mark 0 7;mark 0 3;", 40, 3);
        told(OK + "purse 0 7;purse 0 3;", 50, 3);
        told(OK + "way own;way harm;", 2, 2);
        told(OK + "way harm;way own;", 2, 0);
        told(OK + "bar 7;bar 3;", 3, 3);
        told(OK + "bar 7;bar 0;", 3, 0);
        told(OK + "sort 0 5 2;sort 0 5 2;", 60, 2);
        s.due("sorts add up", s.with(OK + "sort 0 5 2;sort 0 5 2;").parts(0), 4);
        s.due("extra", s.with(OK + "extra 0 0 more 7;extra 0 0 less 3;").worth(0, 0, 0), 69);
        s.due("extra", s.with(OK + "extra 0 0 more 7;extra 0 0 more 0;").worth(0, 0, 0), 72);
        String two = "board 1;board 1;bidder 1 1;bidder 1 1;";
        s.due("friend", s.with(two + "friend 0 1 more 9;friend 0 1 more 2;").beside(0, 0), 4);
        s.due("friend, the other way round", s.with(two + "friend 0 1 more 9;friend 1 0 more 2;").beside(0, 0), 4);
    }

    private static void faultOne() {
        s.says("Terms 1", "FAULTS, with places (a token's first byte; the end's)");
        fault(OK + "bar \n barbar 1;", 1, 25);
        fault(OK + "bar", 1, 22);
        fault(OK + "bar \n ", 1, 25);
        fault(OK + "bar 123", 1, 26);
        fault("bidder", 1, 6);
        s.says("Terms 1", "1 the first byte or token with which no text goes on (a longer row of digits is no token)");
        fault("x y z", 1, 0);
        fault(OK + "bar bar bar", 1, 23);
        fault(OK + "bar 00000;", 1, 23);
        fault(OK + "12345 1;", 1, 19);
        fault(OK + "bar 1 23456", 1, 25);
        fault(OK + "#bar", 1, 19);
        // Ahead of all others, even of those that come earlier.
        fault("board 100;board 101;bidder 1 1;mark 9 9;x", 1, 40);
        fault("board 1;board 2;bidder 1 1;bar", 1, 30);
        fault(SIX + "board 9;bidder 1 1;bar 1", 1, 72);
        fault("bar 1;".repeat(41) + "bar", 1, 249);
        fault("bar", 1, 3);
    }

    private static void faultTwo() {
        s.says("Terms 1", "If there is none, the first by place, of one place the least");
        fault("board 100;bidder 100 100;", 2, 6);
        fault("board 9;bidder 1 100;board 10;", 2, 17);
        fault("board 8;board 9;bidder 100 1;", 4, 14);
        fault(OK + "mark 1 10;", 2, 24);
        fault("board 8;board 100;bidder 1 1;", 2, 14);
        fault(SIX + "board 100;bidder 1 1;", 3, 48);
        fault(SIX.replace("9;board 9;b", "9;board 99;b") + "board 9;bidder 1 1;", 4, 14);
        s.says("Terms 1", "2 a NUMBER that can't be (as above; a BIDDER or BOARD that no LINE ahead told");
        fault("mark 0 1;" + OK, 2, 5);
        fault("purse 0 1;" + OK, 2, 6);
        fault("sort 0 1 1;" + OK, 2, 5);
        fault("bidder 1 1;extra 0 0 more 1;board 1;", 2, 19);
        fault("board 1;extra 0 0 more 1;bidder 1 1;", 2, 14);
        fault(OK + "mark 1 1;bidder 1 1;", 2, 24);
        fault(OK + "extra 0 1 more 1;board 1;", 2, 27);
        fault(OK + "friend 0 1 more 1;bidder 1 1;", 2, 28);
        fault(OK + "foe 0 1;bidder 1 1;", 2, 25);
        fault(OK + "foe 1 0;bidder 1 1;", 2, 23);
        fault(OK + "purse 9999 1;", 2, 25);
        fault(TWO + "friend 2 0 more 1;", 2, TWO.length() + 7);
        fault(TWO + "friend 0 2 more 1;", 2, TWO.length() + 9);
        fine("board 1;" + SEVEN + "mark 6 1;purse 6 1;sort 6 1 1;foe 6 0;foe 0 6;friend 6 5 more 1;extra 6 0 less 1;");
        fault("board 1;" + SEVEN + "mark 7 1;", 2, 90);
        fault("board 1;" + SEVEN + "foe 7 0;", 2, 89);
        fault("board 1;" + SEVEN + "foe 0 7;", 2, 91);
        fine(SIX + "bidder 1 1;extra 0 5 more 1;");
        fault(SIX + "bidder 1 1;extra 0 6 more 1;", 2, 67);
        s.says("Terms 1", "of friend and foe the second one if it is the first");
        fault(TWO + "friend 1 1 more 1;", 2, TWO.length() + 9);
        fault(TWO + "foe 0 0;", 2, TWO.length() + 6);
        fault(TWO + "foe 0 00;", 2, TWO.length() + 6);
        fault(TWO + "foe 2 2;", 2, TWO.length() + 4);
        s.says("Terms 1", "what is more or less 0 .. 999");
        fine(TWO + "extra 0 0 more 0;extra 0 0 less 0;extra 0 0 more 999;extra 0 0 less 999;");
        fine(TWO + "friend 0 1 more 0;friend 0 1 less 0;friend 0 1 more 999;friend 0 1 less 999;");
        fault(TWO + "extra 0 0 more 9999;", 2, TWO.length() + 15);
        fault(TWO + "friend 0 1 less 9999;", 2, TWO.length() + 16);
    }

    private static void faultThree() {
        s.says("Terms 1", "3 one too many, at its first token: a 7th board, an 8th bidder, a 4th sort of a BIDDER, a 41st LINE");
        fine(SIX + "bidder 1 1;");
        fault(SIX + " \nboard 9;bidder 1 1;", 3, 50);
        fault(SIX + "board 99;bidder 1 1;", 3, 48);
        fault(SIX + "bidder 1 1;board 8;board 9;", 3, 59);
        fine("board 1;" + SEVEN);
        fault("board 1;" + SEVEN + " bidder 100 100;", 3, 86);
        String three = "sort 0 5 1;sort 0 5 1;sort 0 5 1;";
        fault(OK + three + "  sort 0 100 10;", 3, 54);
        fault(OK + three + "sort 1 5 1;", 2, 57);
        fine(OK + "bidder 1 1;" + three + three.replace(" 0 ", " 1 "));
        fault(OK + "bidder 1 1;" + three + "sort 1 5 1;sort 0 5 1;", 3, 19 + 11 + 33 + 11);
        fine(OK + "bar 1;".repeat(38));
        fault(OK + "bar 1;".repeat(38) + "\nbar 1;", 3, 248);
        fault(OK + "bar 1;".repeat(38) + "bar 100;", 3, 247);
        fault(OK + "bar 1;".repeat(37) + "bar 100;bar 1;", 2, 245);
        fault(OK + "bar 1;".repeat(40), 3, 247);
        fault("board 9;" + "bar 1;".repeat(39) + "bidder 1 1;", 3, 242);
        // LINES are counted anew in each text.
        RoadBoards x = new RoadBoards();
        for (int n = 0; n < 3; n++) {
            Texts.put(x, OK + "bar 1;".repeat(39));
            s.due("41 LINES", x.sale(-1), -1);
            Texts.put(x, OK + "bar 1;".repeat(38));
            s.due("40 LINES", x.sale(-1), n);
        }
    }

    private static void faultFourAndFive() {
        s.says("Terms 1", "4 a PASS above that of the BOARD ahead (as told, if it can be), at it.");
        fault("board 9;board \n 10;bidder 1 1;", 4, 16);
        fault("board 98;board 99;bidder 1 1;", 4, 15);
        fault("board 9;bidder 1 1;bar 1;board 10;", 4, 31);
        fault("board 9;board 0;board 9;bidder 1 1;", 4, 22);
        fault("board 100;board 99;bidder 1 1;", 2, 6);
        s.says("Terms 1", "If there is none of these, 5 there is no BOARD, or no BIDDER, at the end's place.");
        fault("board 9; \n", 5, 10);
        fault("bidder 9 9;", 5, 11);
        fault("way own;bar 5;", 5, 14);
        fault("\n", 5, 1);
        fault("board 100;", 2, 6);
        fault("board 1;board 2;", 4, 14);
        fault("bidder 1 1;".repeat(8), 3, 77);
        fault("bar 1;".repeat(41), 3, 240);
    }

    private static void newObject() {
        s.says("Promise 1", "`RoadBoards()`: No SALES; no images.");
        RoadBoards x = new RoadBoards();
        for (int k = 0; k < 3; k++) s.due("again(" + k + ")", x.again(k), false);
        s.due("count()", x.count(), 0);
        for (int n = -1; n < 3; n++) {
            s.due("about", x.about(n, 0), -1);
            s.due("worth", x.worth(n, 0, 0), -1);
            s.due("bid", x.bid(n, 0, 0), false);
            s.due("rule", x.rule(n, 0, 0), false);
            s.due("take", x.take(n), -1);
            s.due("high", x.high(n), -1);
            s.due("climbs", x.climbs(n), -1);
            s.due("price", x.price(n, 0, 0), false);
        }
        s.due("sale(0)", x.sale(0), -2);
        s.due("fault(0)", x.fault(0), 0);
        s.due("fault(1)", x.fault(1), -1);
        s.due("the tape is empty", x.end(1), -1);
        // What one is told another one does not hear of.
        RoadBoards y = s.with(OK);
        y.image(0);
        y.feed(0, 0, 0, 0, 0);
        s.due("count() of another one", x.count(), 0);
        s.due("again(0) of another one", x.again(0), false);
        s.due("tape of another one", x.end(1), -1);
    }

    private static void feed() {
        s.says("Promise 2", "twenty bytes come behind it, of each number the highest first: how many it has.");
        RoadBoards x = new RoadBoards();
        s.due("feed", x.feed(0x626f6172, 0x6420393b, 0x62696464, 0x65722038, 0x20373b20), 20);
        s.due("feed", x.feed(0x62617220, 0x353b7761, 0x79206f77, 0x6e3b2020, 0x2020200a), 40);
        s.due("sale", x.sale(-1), 0);
        s.due("PASS", x.about(0, 10), 9);
        s.due("VALUE", x.about(0, 20), 8);
        s.due("BID", x.about(0, 30), 7);
        s.due("BAR", x.about(0, 3), 5);
        s.due("WAY", x.about(0, 2), 0);
        // The highest bit is one of the byte's: such a byte is no sign of a text.
        for (int shift = 0; shift < 32; shift += 8) {
            x.end(0);
            x.feed(0x20202020 ^ 0x80 << shift, 0, 0, 0, 0);
            x.sale(-1);
            s.due("place of a byte of 160", x.fault(1), 3 - shift / 8);
        }
        for (int k = 0; k < 5; k++) {
            int[] f = {0x20202020, 0x20202020, 0x20202020, 0x20202020, 0x20202020};
            f[k] = -1;
            x.feed(f[0], f[1], f[2], f[3], f[4]);
            x.sale(-1);
            s.due("place of the bytes of -1", x.fault(1), 4 * k);
        }
        s.says("Promise 2", "NONE, and nothing comes, if there would be more than 500.");
        x = new RoadBoards();
        for (int n = 1; n <= 25; n++) s.due("feed " + n, x.feed(0x20202020, 0x20202020, 0x20202020, 0x20202020, 0x20202020), 20 * n);
        s.due("feed 26", x.feed(0x20202020, 0x20202020, 0x20202020, 0x20202020, 0x20202020), -1);
        s.due("end(501)", x.end(501), -1);
        s.due("end(500)", x.end(500), 500);
        for (int n = 499; n > 480; n--) {
            s.due("end", x.end(n), n);
            s.due("feed behind " + n, x.feed(-1, -1, -1, -1, -1), -1);
            s.due("nothing comes", x.end(n + 1), -1);
        }
        s.due("end", x.end(480), 480);
        s.due("feed behind 480", x.feed(0x20202020, 0x20202020, 0x20202020, 0x20202020, 0x20202020), 500);
        s.due("feed behind 500", x.feed(-1, -1, -1, -1, -1), -1);
        s.due("only blanks came", x.sale(-1), -1);
        s.due("only blanks came", x.fault(0), 5);
        s.due("all of them", x.fault(1), 500);
        s.due("there is room again", x.feed(0, 0, 0, 0, 0), 20);
    }

    private static void end() {
        s.says("Promise 3", "The tape has its first n bytes alone: n.");
        RoadBoards x = new RoadBoards();
        s.due("end(0) of an empty tape", x.end(0), 0);
        Texts.put(x, OK + "bar 7;x");
        s.due("as many as it has", x.end(26), 26);
        s.due("one less", x.end(25), 25);
        s.due("the last is gone", x.end(26), -1);
        s.due("sale", x.sale(-1), 0);
        s.due("BAR", x.about(0, 3), 7);
        // What comes then stands behind them.
        Texts.put(x, OK + "barz");
        s.due("end(22)", x.end(22), 22);
        s.due("feed", x.feed(0x20383b20, 0x20202020, 0x20202020, 0x20202020, 0x20202020), 42);
        s.due("sale", x.sale(0), 0);
        s.due("BAR", x.about(0, 3), 8);
        x.feed(-1, -1, -1, -1, -1);
        s.due("end(0)", x.end(0), 0);
        s.due("empty", x.end(1), -1);
        s.due("from the first on", x.feed(0, 0, 0, 0, 0), 20);
        s.says("Promise 3", "NONE if it has not so many, or n is below 0.");
        for (int n : new int[] {21, 22, 500, 501, HIGH, -1, -2, LOW, LOW + 20}) s.due("end(" + n + ")", x.end(n), -1);
        s.due("it is as it was", x.end(20), 20);
        s.due("end(20)", new RoadBoards().end(20), -1);
    }

    private static void sale() {
        s.says("Promise 4", "The tape is taken (and is empty then), as a SALE, a further one (at NONE)");
        RoadBoards x = new RoadBoards();
        for (int n = 0; n < 3; n++) {
            Texts.put(x, "board " + (n + 4) + ";bidder 1 1;");
            s.due("sale(-1)", x.sale(-1), n);
            s.due("end(1)", x.end(1), -1);
            s.due("feed", x.feed(0, 0, 0, 0, 0), 20);
            x.end(0);
            s.due("count()", x.count(), n + 1);
        }
        for (int n = 0; n < 3; n++) s.due("about(" + n + ", 10)", x.about(n, 10), n + 4);
        s.says("Promise 4", "NONE: a FAULT.");
        for (String text : new String[] {"x", "board 100;bidder 1 1;", SIX + "board 1;bidder 1 1;", "board 1;board 2;bidder 1 1;", ""}) {
            x = s.with(OK);
            Texts.put(x, text);
            s.due("sale(-1) of <" + text + ">", x.sale(-1), -1);
            s.due("count()", x.count(), 1);
            s.due("about(1, 0)", x.about(1, 0), -1);
            s.due("the tape is empty", x.end(1), -1);
            Texts.put(x, text);
            s.due("sale(0) of <" + text + ">", x.sale(0), -1);
            s.due("SALE 0 is as it was", x.about(0, 10), 9);
            s.due("SALE 0 is as it was", x.about(0, 30), 7);
            s.due("the tape is empty", x.end(1), -1);
            s.due("nothing of it is left", x.sale(0), -1);
            s.due("FAULT of an empty text", x.fault(0), 5);
            s.due("its place", x.fault(1), 0);
        }
    }

    private static void saleInPlace() {
        s.says("Promise 4", "or in the place of one (its PRICES are 0 then): its number.");
        RoadBoards x = s.with("board 9;board 9;bidder 1 1;bidder 1 1;mark 0 9;purse 0 9;extra 0 0 more 99;sort 0 9 9;friend 0 1 more 99;"
            + "foe 0 1;way harm;bar 9;", OK, OK);
        for (int n = 0; n < 3; n++) s.due("price", x.price(n, 0, 9999), true);
        s.due("price", x.price(0, 1, 9999), true);
        Texts.put(x, "board 2;board 1;bidder 3 3;bidder 2 2;");
        s.due("sale(0)", x.sale(0), 0);
        s.due("count()", x.count(), 3);
        int[][] abouts = {{0, 2}, {1, 2}, {2, 1}, {3, 0}, {10, 2}, {11, 1}, {20, 3}, {30, 3}, {40, 1}, {50, 9999}, {60, 0}};
        for (int[] a : abouts) s.due("about(0, " + a[0] + ")", x.about(0, a[0]), a[1]);
        s.due("no EXTRA", x.worth(0, 0, 0), 6);
        s.due("no FRIENDS, no FOES", x.beside(0, 0), 8);
        // With PRICES of 0 each would rather have BOARD 0; with a PRICE of 2 only 0 would.
        s.due("PRICES are 0", x.judged(0), 1);
        x.price(0, 0, 2);
        s.due("PRICES are EVEN", x.judged(0), -1);
        s.due("the others' PRICES stay", x.judged(1), 0);
        Texts.put(x, OK);
        s.due("sale(2)", x.sale(2), 2);
        s.due("PRICE is 0", x.judged(2), -1);
        s.due("the others' PRICES stay", x.judged(1), 0);
        s.due("the others' PRICES stay", x.judged(0), -1);
        // Nothing of the last BIDDER and BOARD is left either.
        String last = SIX.replace("9", "0") + SEVEN.replace("1 1", "0 0");
        RoadBoards y = s.with(last + "mark 6 9;purse 6 9;extra 6 5 more 99;sort 6 9 9;friend 6 5 more 99;foe 4 6;bar 9;way own;");
        s.due("EXTRA", y.worth(0, 6, 5), 99);
        s.due("FRIENDS", y.beside(0, 0), 198);
        Texts.put(y, last);
        s.due("sale(0)", y.sale(0), 0);
        s.due("no MARK", y.about(0, 46), 1);
        s.due("no PURSE", y.about(0, 56), 9999);
        s.due("no SORTS", y.about(0, 66), 0);
        s.due("no EXTRA", y.worth(0, 6, 5), 0);
        s.due("no FRIENDS", y.beside(0, 0), 0);
    }

    private static void noSuchSale() {
        s.says("Promise 4", "-2: there is none such, or there are 3 (no text is read then, FAULT 0).");
        for (int n = 0; n < 4; n++) {
            String[] texts = new String[n];
            Arrays.fill(texts, OK);
            RoadBoards x = s.with(texts);
            for (int at : new int[] {-2, -3, n, n + 1, 3, 4, LOW, HIGH}) refused(x, at, n);
            if (n == 3) refused(x, -1, n);
            Texts.put(x, "board 5;bidder 1 1;");
            s.due("there is room still", x.sale(n < 3 ? -1 : 2), n < 3 ? n : 2);
            s.due("PASS", x.about(n < 3 ? n : 2, 10), 5);
        }
    }

    /** With n SALES such a one can't be. */
    private static void refused(RoadBoards x, int at, int n) {
        if (n < 3) s.due("a FAULT ahead", x.sale(-1), -1);
        if (n == 3) s.due("a FAULT ahead", x.sale(0), -1);
        s.due("a FAULT ahead", x.fault(0), 5);
        for (String text : new String[] {"board", OK}) {
            Texts.put(x, text);
            s.due("sale(" + at + ") of <" + text + "> with " + n, x.sale(at), -2);
            s.due("FAULT", x.fault(0), 0);
            s.due("place", x.fault(1), -1);
            s.due("the tape is empty", x.end(1), -1);
            s.due("count()", x.count(), n);
        }
    }

    private static void faultAsked() {
        s.says("Promise 5", "Of the latest sale(), what 0: the FAULT, 0 without, 1: its place, NONE without.");
        RoadBoards x = new RoadBoards();
        s.due("no sale() yet", x.fault(0), 0);
        s.due("no sale() yet", x.fault(1), -1);
        Texts.put(x, "#");
        x.sale(-1);
        s.due("fault(0)", x.fault(0), 1);
        s.due("fault(1)", x.fault(1), 0);
        Texts.put(x, "board 100;bidder 1 1;");
        s.due("till the next sale()", x.fault(0), 1);
        x.sale(-1);
        s.due("fault(0)", x.fault(0), 2);
        s.due("fault(1)", x.fault(1), 6);
        Texts.put(x, OK);
        x.sale(-1);
        s.due("a good one", x.fault(0), 0);
        s.due("a good one", x.fault(1), -1);
        Texts.put(x, "board 8;board 9;bidder 1 1;");
        x.sale(0);
        s.due("in the place of one", x.fault(0), 4);
        s.due("in the place of one", x.fault(1), 14);
        x.sale(5);
        s.due("no such one", x.fault(0), 0);
        s.due("no such one", x.fault(1), -1);
        s.says("Promise 5", "NONE for another what.");
        x.sale(-1);
        for (int what : new int[] {-1, 2, 3, LOW, HIGH}) s.due("fault(" + what + ")", x.fault(what), -1);
    }

    private static void about() {
        s.says("Promise 6", "NONE: there is none such, or for another what.");
        RoadBoards x = s.with(OK, SIX + SEVEN);
        int[] none = {-1, -10, LOW, LOW + 10, 4, 5, 9, 70, 71, 76, 80, 100, HIGH - 9, HIGH};
        for (int n = 0; n < 2; n++) {
            for (int what : none) s.due("about(" + n + ", " + what + ")", x.about(n, what), -1);
        }
        int[] last = {1, 1, 1, 1, 1, 1};
        int[] first = {9, 8, 7, 1, 9999, 0};
        for (int k = 0; k < 6; k++) {
            int ten = 10 * (k + 1);
            s.due("about(0, " + ten + ")", x.about(0, ten), first[k]);
            for (int what = ten + last[k]; what < ten + 10; what++) s.due("about(0, " + what + ")", x.about(0, what), -1);
        }
        int[] seventh = {-1, 1, 1, 1, 9999, 0};
        for (int k = 0; k < 6; k++) {
            int ten = 10 * (k + 1);
            s.due("about(1, " + (ten + 5) + ")", x.about(1, ten + 5), k == 0 ? 9 : seventh[k]);
            s.due("about(1, " + (ten + 6) + ")", x.about(1, ten + 6), seventh[k]);
            for (int what = ten + 7; what < ten + 10; what++) s.due("about(1, " + what + ")", x.about(1, what), -1);
        }
        for (int n : new int[] {-1, -2, 2, 3, LOW, HIGH}) {
            for (int what : new int[] {0, 1, 2, 3, 10, 20, 30, 40, 50, 60}) s.due("about(" + n + ", " + what + ")", x.about(n, what), -1);
        }
    }

    private static void worth() {
        s.says("Promise 7", "WORTH. NONE: there is none such (of any).");
        RoadBoards x = s.with(OK, SIX + SEVEN);
        s.due("worth(0, 0, 0)", x.worth(0, 0, 0), 72);
        s.due("worth(1, 6, 5)", x.worth(1, 6, 5), 9);
        for (int n : new int[] {-1, 2, 3, LOW, HIGH}) s.due("worth(" + n + ", 0, 0)", x.worth(n, 0, 0), -1);
        for (int k : new int[] {-1, 1, 7, LOW, HIGH}) {
            s.due("worth(0, " + k + ", 0)", x.worth(0, k, 0), -1);
            s.due("worth(0, 0, " + k + ")", x.worth(0, 0, k), -1);
        }
        s.due("worth(1, 7, 0)", x.worth(1, 7, 0), -1);
        s.due("worth(1, 0, 6)", x.worth(1, 0, 6), -1);
    }

    private static void count() {
        s.says("Terms 1", "SALES, at most 3, from 0 on.");
        RoadBoards x = s.with(OK, OK, OK);
        Texts.put(x, OK);
        s.due("a fourth", x.sale(-1), -2);
        s.due("about(2, 0)", x.about(2, 0), 1);
        s.due("about(3, 0)", x.about(3, 0), -1);
        s.says("Promise 40", "`int count()`: How many SALES.");
        x = new RoadBoards();
        s.due("count()", x.count(), 0);
        for (int n = 1; n <= 3; n++) {
            Texts.put(x, OK);
            s.due("a text alone is no SALE", x.count(), n - 1);
            x.sale(-1);
            s.due("count()", x.count(), n);
            x.sale(-1);
            s.due("a FAULT", x.count(), n);
            Texts.put(x, OK);
            x.sale(0);
            s.due("in the place of one", x.count(), n);
        }
    }
}
