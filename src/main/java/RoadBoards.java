/**
 * Boards by the road, sold at once to whoever bids most. The words in capitals are those of the
 * document. Every row that a call needs is made in the constructors and used again, so that no
 * call makes an object.
 */
public final class RoadBoards {
    /** There is none. */
    public static final int NONE = -1;

    private static final int NO_SUCH_SALE = -2;
    private static final int NO_AMOUNT = -100000;
    private static final int NO_SPARED = -1000000;
    private static final long NO_GUESS = -4000000000000000000L;

    private static final int SALES = 3;
    private static final int IMAGES = 3;
    private static final int TAPE = 500;
    private static final int FED = 20;
    private static final int LINES = 40;
    private static final int BOARDS = 6;
    private static final int BIDDERS = 7;
    private static final int SORTS = 3;
    /** The greatest PASS, VALUE, BID and BAR. */
    private static final int TOP = 99;
    private static final int MARKS = 9;
    private static final int CHANCE = 9;
    private static final int PURSE = 9999;
    private static final int PRICE = 9999;
    private static final int AMOUNT = 999;
    private static final int ROUNDS = 40;
    private static final int DAYS = 60;
    private static final int CLIMBS = 999;
    private static final int FEW = 4;
    private static final int FEW_TOP = 5;
    /** Rows of BIDS 0 .. 5 of four BIDDERS. */
    private static final int FEW_ROWS = 1296;

    private static final int OWN = 0;
    private static final int NEXT = 1;
    private static final int HARM = 2;

    private static final int REST = 1;
    private static final int RING = 2;

    private final State now;
    private final State[] images;
    private final boolean[] kept;
    private final Reader reader;
    private final Line line;
    private final Replier replier;
    private final Match match;
    private final Chances chances;
    private final Purses purses;
    private final Climber climber;

    public RoadBoards() {
        now = new State();
        images = new State[IMAGES];
        for (int k = 0; k < IMAGES; k++) {
            images[k] = new State();
        }
        kept = new boolean[IMAGES];
        reader = new Reader();
        line = new Line();
        replier = new Replier();
        match = new Match();
        chances = new Chances();
        purses = new Purses();
        climber = new Climber();
    }

    public int feed(int a, int b, int c, int d, int e) {
        if (now.length + FED > TAPE) {
            return NONE;
        }
        now.addBytes(a);
        now.addBytes(b);
        now.addBytes(c);
        now.addBytes(d);
        now.addBytes(e);
        return now.length;
    }

    public int end(int n) {
        if (n < 0 || n > now.length) {
            return NONE;
        }
        now.length = n;
        return n;
    }

    public int sale(int at) {
        now.fault = 0;
        now.place = NONE;
        boolean further = at == NONE;
        if (further ? now.count >= SALES : saleAt(at) == null) {
            now.length = 0;
            return NO_SUCH_SALE;
        }
        reader.readText(now);
        now.length = 0;
        now.fault = reader.fault;
        now.place = reader.place;
        if (now.fault != 0) {
            return NONE;
        }
        int number = further ? now.count : at;
        now.sales[number].copySale(reader.made);
        if (further) {
            now.count++;
        }
        return number;
    }

    public int fault(int what) {
        if (what == 0) {
            return now.fault;
        }
        return what == 1 ? now.place : NONE;
    }

    public int about(int sale, int what) {
        Sale s = saleAt(sale);
        if (s == null || what < 0) {
            return NONE;
        }
        int k = what % 10;
        switch (what / 10) {
            case 0:
                return aboutAll(s, what);
            case 1:
                return s.hasBoard(k) ? s.pass[k] : NONE;
            case 2:
                return s.hasBidder(k) ? s.value[k] : NONE;
            case 3:
                return s.hasBidder(k) ? s.bid[k] : NONE;
            case 4:
                return s.hasBidder(k) ? s.mark[k] : NONE;
            case 5:
                return s.hasBidder(k) ? s.purse[k] : NONE;
            case 6:
                return s.hasBidder(k) ? s.sorts[k] : NONE;
            default:
                return NONE;
        }
    }

    public int worth(int sale, int bidder, int board) {
        Sale s = saleAt(sale);
        return s != null && s.hasBidder(bidder) && s.hasBoard(board) ? s.worthTo(bidder, board) : NONE;
    }

    public boolean bid(int sale, int bidder, int bid) {
        Sale s = saleAt(sale);
        if (s == null || !s.hasBidder(bidder) || !upToTop(bid)) {
            return false;
        }
        s.bid[bidder] = bid;
        return true;
    }

    public boolean rule(int sale, int way, int bar) {
        Sale s = saleAt(sale);
        if (s == null || way < OWN || way > HARM || !upToTop(bar)) {
            return false;
        }
        s.way = way;
        s.bar = bar;
        return true;
    }

    public int stands(int sale, int board) {
        Sale s = saleAt(sale);
        if (s == null) {
            return NONE;
        }
        line.lineUp(s);
        return line.whoStands(board);
    }

    public int pay(int sale, int bidder, boolean gain) {
        Sale s = saleAt(sale);
        if (s == null || !s.hasBidder(bidder)) {
            return NO_AMOUNT;
        }
        line.lineUp(s);
        return gain ? line.gainOf(s, bidder) : line.payAt(line.boardOf(bidder));
    }

    public int take(int sale) {
        Sale s = saleAt(sale);
        if (s == null) {
            return NONE;
        }
        line.lineUp(s);
        return line.allPays();
    }

    public int rather(int sale, boolean board) {
        Sale s = saleAt(sale);
        if (s == null) {
            return NONE;
        }
        line.lineUp(s);
        for (int i = 0; i < s.bidders; i++) {
            int wanted = line.ratherThan(s, i);
            if (wanted != NONE) {
                return board ? wanted : i;
            }
        }
        return NONE;
    }

    public int reply(int sale, int bidder) {
        Sale s = saleAt(sale);
        if (s == null || !s.hasBidder(bidder)) {
            return NONE;
        }
        replier.lookAt(s);
        replier.seekReply(s, bidder, TOP);
        return replier.reply;
    }

    public int restless(int sale) {
        Sale s = saleAt(sale);
        if (s == null) {
            return NONE;
        }
        replier.lookAt(s);
        return replier.firstRestless(s, TOP);
    }

    public int replies(int sale, int what) {
        Sale s = saleAt(sale);
        if (s == null) {
            return NONE;
        }
        int bidder = behind(what, 10, s.bidders);
        if (what != 0 && what != 1 && bidder == NONE) {
            return NONE;
        }
        replier.takeTurns(s);
        if (what == 0) {
            return replier.rounds;
        }
        return what == 1 ? replier.ending : replier.bids[bidder];
    }

    public int rests(int sale, int top) {
        Sale s = saleAt(sale);
        return isFew(s, top) ? replier.seekRests(s, top, FEW_ROWS) : NONE;
    }

    public int rest(int sale, int top, int k, int bidder) {
        Sale s = saleAt(sale);
        if (s == null || !isFew(s, top) || !s.hasBidder(bidder) || k < 0 || k >= FEW_ROWS) {
            return NONE;
        }
        return replier.seekRests(s, top, k + 1) == k + 1 ? replier.bids[bidder] : NONE;
    }

    public int best(int sale, int what) {
        Sale s = saleAt(sale);
        if (s == null) {
            return NONE;
        }
        if (what == 1) {
            line.lineUp(s);
            return line.allWorths(s);
        }
        int board = behind(what, 10, s.boards);
        if (what != 0 && board == NONE) {
            return NONE;
        }
        int most = match.solveBest(s);
        return what == 0 ? most : match.row[board];
    }

    public int even(int sale, int board, boolean most) {
        Sale s = saleAt(sale);
        if (s == null || !s.hasBoard(board)) {
            return NONE;
        }
        int all = match.solveBest(s);
        return most ? all - match.mostWithout(s, board) : match.mostWithTwo(s, board) - all;
    }

    public int truly(int sale, int bidder) {
        Sale s = saleAt(sale);
        if (s == null || !s.hasBidder(bidder)) {
            return NONE;
        }
        return match.harmOf(s, bidder, match.solveBest(s));
    }

    public boolean price(int sale, int board, int price) {
        Sale s = saleAt(sale);
        if (s == null || !s.hasBoard(board) || price < 0 || price > PRICE) {
            return false;
        }
        s.price[board] = price;
        return true;
    }

    public int judged(int sale) {
        Sale s = saleAt(sale);
        if (s == null) {
            return NONE;
        }
        match.solveBest(s);
        return match.judge(s);
    }

    public long parts(int sale) {
        Sale s = saleAt(sale);
        return s == null ? NONE : chances.allParts(s);
    }

    public long taken(int sale, int bar) {
        Sale s = saleAt(sale);
        return s == null || !upToTop(bar) ? NONE : chances.takenWith(s, bar);
    }

    public int high(int sale) {
        Sale s = saleAt(sale);
        if (s == null) {
            return NONE;
        }
        chances.addUpBars(s);
        return chances.firstGreatest();
    }

    public int day(int sale, int d, int what) {
        Sale s = saleAt(sale);
        if (s == null || d < 1 || d > DAYS) {
            return NONE;
        }
        int bidder = behind(what, 10, s.bidders);
        int board = behind(what, 20, s.boards);
        if (what != 0 && bidder == NONE && board == NONE) {
            return NONE;
        }
        purses.sellFor(s, d);
        if (what == 0) {
            return purses.line.allPays();
        }
        return bidder != NONE ? purses.left[bidder] : purses.line.whoStands(board);
    }

    public int spent(int sale, int bidder) {
        Sale s = saleAt(sale);
        if (s == null || !s.hasBidder(bidder)) {
            return NONE;
        }
        purses.sellFor(s, DAYS);
        return purses.endedOn[bidder];
    }

    public int beside(int sale, int what) {
        Sale s = saleAt(sale);
        if (s == null) {
            return NO_AMOUNT;
        }
        int board = behind(what, 10, s.boards);
        if (what != 0 && board == NONE) {
            return NO_AMOUNT;
        }
        int most = match.solveBeside(s);
        if (what == 0) {
            return most;
        }
        return match.row[board] == NONE ? NO_AMOUNT : match.row[board];
    }

    public int come(int sale, int value, int bid) {
        Sale s = saleAt(sale);
        if (s == null || !upToTop(value) || !upToTop(bid)) {
            return NONE;
        }
        line.lineUp(s);
        int board = line.putIn(s.bidders, bid, 1);
        if (!s.hasBoard(board) || value * s.pass[board] < line.payAt(board)) {
            return 0;
        }
        return line.bitsFrom(board);
    }

    public int spared(int sale, int bidder) {
        Sale s = saleAt(sale);
        if (s == null || !s.hasBidder(bidder)) {
            return NO_SPARED;
        }
        line.lineUp(s);
        return line.boardOf(bidder) == NONE ? NO_SPARED : line.sparedInTurns(s, bidder);
    }

    public int breaks(int sale) {
        Sale s = saleAt(sale);
        if (s == null) {
            return NONE;
        }
        line.lineUp(s);
        for (int i = 0; i < s.bidders; i++) {
            if (line.boardOf(i) != NONE && line.sparedInTurns(s, i) < 0) {
                return i;
            }
        }
        return NONE;
    }

    public int mark(int sale, int bidder) {
        Sale s = saleAt(sale);
        if (s == null || !s.hasBidder(bidder)) {
            return NONE;
        }
        int high = 1;
        int most = NONE;
        for (int m = 1; m <= MARKS; m++) {
            line.open(s, s.bar);
            line.putOthers(s, s.bid, bidder);
            line.putIn(bidder, s.bid[bidder], m);
            int sum = line.allPays();
            if (sum > most) {
                most = sum;
                high = m;
            }
        }
        return high;
    }

    public int without(int sale, int bidder) {
        Sale s = saleAt(sale);
        if (s == null || !s.hasBidder(bidder)) {
            return NONE;
        }
        line.open(s, s.bar);
        line.putOthers(s, s.bid, bidder);
        return line.allPays();
    }

    public long guess(int sale, int bidder, boolean gain) {
        Sale s = saleAt(sale);
        if (s == null || !s.hasBidder(bidder)) {
            return NO_GUESS;
        }
        chances.addUpGains(s, bidder);
        int bid = chances.firstGreatest();
        return gain ? chances.sums[bid] : bid;
    }

    public int pair(int sale, int a, int b, int what) {
        Sale s = saleAt(sale);
        if (s == null || !s.hasBidder(a) || !s.hasBidder(b) || a == b || what < 0 || what > 2) {
            return NO_AMOUNT;
        }
        replier.bidAsOne(s, Math.min(a, b), Math.max(a, b));
        if (what == 0) {
            return replier.pairGain;
        }
        return what == 1 ? replier.pairLesser : replier.pairOther;
    }

    public int tells(int sale, int bidder, int value, boolean board) {
        Sale s = saleAt(sale);
        if (s == null || !s.hasBidder(bidder) || !upToTop(value)) {
            return NO_AMOUNT;
        }
        int most = match.solveTold(s, bidder, value);
        int has = match.boardOfBidder(s, bidder);
        if (board) {
            return has;
        }
        return has == NONE ? 0 : s.worthTo(bidder, has) - match.harmOf(s, bidder, most);
    }

    public int climb(int sale, int rounds, int board) {
        Sale s = saleAt(sale);
        if (s == null || rounds < 0 || rounds > CLIMBS || !s.hasBoard(board)) {
            return NONE;
        }
        climber.climbFor(s, rounds);
        return climber.prices[board];
    }

    public int climbs(int sale) {
        Sale s = saleAt(sale);
        if (s == null) {
            return NONE;
        }
        int rounds = climber.climbFor(s, CLIMBS + 1);
        return rounds > CLIMBS ? NONE : rounds;
    }

    public int count() {
        return now.count;
    }

    public boolean image(int k) {
        if (k < 0 || k >= IMAGES) {
            return false;
        }
        images[k].copyState(now);
        kept[k] = true;
        return true;
    }

    public boolean again(int k) {
        if (k < 0 || k >= IMAGES || !kept[k]) {
            return false;
        }
        now.copyState(images[k]);
        return true;
    }

    private Sale saleAt(int number) {
        return number >= 0 && number < now.count && number < SALES ? now.sales[number] : null;
    }

    private static int aboutAll(Sale s, int what) {
        switch (what) {
            case 0:
                return s.boards;
            case 1:
                return s.bidders;
            case 2:
                return s.way;
            case 3:
                return s.bar;
            default:
                return NONE;
        }
    }

    private static boolean isFew(Sale s, int top) {
        return s != null && s.bidders <= FEW && top >= 0 && top <= FEW_TOP;
    }

    private static boolean upToTop(int n) {
        return n >= 0 && n <= TOP;
    }

    /** The k of a what of first + k, NONE if that is none of so many. */
    private static int behind(int what, int first, int many) {
        return what >= first && what - first < many ? what - first : NONE;
    }

    /** All that is told. */
    private static final class State {
        final byte[] tape = new byte[TAPE];
        int length;
        int fault;
        int place = NONE;
        int count;
        final Sale[] sales = new Sale[SALES];

        State() {
            for (int k = 0; k < SALES; k++) {
                sales[k] = new Sale();
            }
        }

        void addBytes(int four) {
            for (int shift = 24; shift >= 0 && length < TAPE; shift -= 8) {
                tape[length] = (byte) (four >> shift);
                length++;
            }
        }

        void copyState(State from) {
            System.arraycopy(from.tape, 0, tape, 0, TAPE);
            length = from.length;
            fault = from.fault;
            place = from.place;
            count = from.count;
            for (int k = 0; k < SALES; k++) {
                sales[k].copySale(from.sales[k]);
            }
        }
    }

    /** A SALE as it is told. */
    private static final class Sale {
        int boards;
        int bidders;
        int way;
        int bar;
        final int[] pass = new int[BOARDS];
        final int[] price = new int[BOARDS];
        final int[] value = new int[BIDDERS];
        final int[] bid = new int[BIDDERS];
        final int[] mark = new int[BIDDERS];
        final int[] purse = new int[BIDDERS];
        final int[] sorts = new int[BIDDERS];
        final int[] sortValue = new int[BIDDERS * SORTS];
        final int[] sortChance = new int[BIDDERS * SORTS];
        final int[] extra = new int[BIDDERS * BOARDS];
        final int[] friend = new int[BIDDERS * BIDDERS];
        final int[] foe = new int[BIDDERS * BIDDERS];

        void clearSale() {
            boards = 0;
            bidders = 0;
            way = NEXT;
            bar = 0;
            for (int j = 0; j < BOARDS; j++) {
                pass[j] = 0;
                price[j] = 0;
            }
            for (int i = 0; i < BIDDERS; i++) {
                value[i] = 0;
                bid[i] = 0;
                mark[i] = 1;
                purse[i] = PURSE;
                sorts[i] = 0;
            }
            for (int k = 0; k < BIDDERS * BOARDS; k++) {
                extra[k] = 0;
            }
            for (int k = 0; k < BIDDERS * BIDDERS; k++) {
                friend[k] = 0;
                foe[k] = 0;
            }
        }

        void copySale(Sale from) {
            boards = from.boards;
            bidders = from.bidders;
            way = from.way;
            bar = from.bar;
            System.arraycopy(from.pass, 0, pass, 0, BOARDS);
            System.arraycopy(from.price, 0, price, 0, BOARDS);
            System.arraycopy(from.value, 0, value, 0, BIDDERS);
            System.arraycopy(from.bid, 0, bid, 0, BIDDERS);
            System.arraycopy(from.mark, 0, mark, 0, BIDDERS);
            System.arraycopy(from.purse, 0, purse, 0, BIDDERS);
            System.arraycopy(from.sorts, 0, sorts, 0, BIDDERS);
            System.arraycopy(from.sortValue, 0, sortValue, 0, BIDDERS * SORTS);
            System.arraycopy(from.sortChance, 0, sortChance, 0, BIDDERS * SORTS);
            System.arraycopy(from.extra, 0, extra, 0, BIDDERS * BOARDS);
            System.arraycopy(from.friend, 0, friend, 0, BIDDERS * BIDDERS);
            System.arraycopy(from.foe, 0, foe, 0, BIDDERS * BIDDERS);
        }

        boolean hasBoard(int board) {
            return board >= 0 && board < boards;
        }

        boolean hasBidder(int bidder) {
            return bidder >= 0 && bidder < bidders;
        }

        int worthTo(int bidder, int board) {
            return worthBy(bidder, board, value[bidder]);
        }

        int worthBy(int bidder, int board, int told) {
            int worth = told * pass[board] + extra[bidder * BOARDS + board];
            return worth > 0 ? worth : 0;
        }
    }

    /** Reads a tape as a SALE's text. */
    private static final class Reader {
        private static final int END = 0;
        private static final int NUMBER = 1;
        private static final int STOP = 2;
        private static final int STRANGE = 3;
        private static final int BLANK = 4;
        private static final int LETTER = 5;
        private static final int BOARD = 11;
        private static final int BIDDER = 12;
        private static final int MARK = 13;
        private static final int PURSES = 14;
        private static final int EXTRA = 15;
        private static final int SORT = 16;
        private static final int FRIEND = 17;
        private static final int FOE = 18;
        private static final int WAY = 19;
        private static final int BAR = 20;
        private static final int WAY_OWN = 21;
        private static final int WAY_NEXT = 22;
        private static final int WAY_HARM = 23;
        private static final int MORE = 24;
        private static final int LESS = 25;

        /** In the order of their kinds, from BOARD on, a blank behind each. */
        private static final String WORDS =
            "board bidder mark purse extra sort friend foe way bar own next harm more less ";

        private static final int NO_TEXT = 1;
        private static final int WRONG_NUMBER = 2;
        private static final int TOO_MANY = 3;
        private static final int MORE_PASS = 4;
        private static final int TOO_FEW = 5;

        private static final int DIGITS = 4;

        final Sale made = new Sale();
        int fault;
        int place;
        int lines;
        /** The tokens, END behind them all: their kinds, first bytes and (of NUMBERS) numbers. */
        final int[] kinds = new int[TAPE + 1];
        final int[] starts = new int[TAPE + 1];
        final int[] numbers = new int[TAPE + 1];
        int tokens;
        /** The token that is looked at. */
        int at;

        void readText(State state) {
            scanTokens(state);
            made.clearSale();
            fault = 0;
            place = NONE;
            lines = 0;
            at = 0;
            for (int n = 0; n < TAPE && kinds[at] != END && fault != NO_TEXT; n++) {
                readLine();
            }
            if (made.boards == 0 || made.bidders == 0) {
                note(TOO_FEW, state.length);
            }
        }

        private void scanTokens(State state) {
            tokens = 0;
            int from = 0;
            while (from < state.length && tokens < TAPE) {
                int kind = kindOf(state.tape[from]);
                int to = from + 1;
                if (kind == LETTER || kind == NUMBER || kind == BLANK) {
                    while (to < state.length && kindOf(state.tape[to]) == kind) {
                        to++;
                    }
                }
                if (kind != BLANK) {
                    addToken(state, kind, from, to);
                }
                from = to;
            }
            kinds[tokens] = END;
            starts[tokens] = state.length;
        }

        private void addToken(State state, int kind, int from, int to) {
            starts[tokens] = from;
            if (kind == LETTER) {
                kinds[tokens] = wordOf(state, from, to);
            } else if (kind == NUMBER && to - from > DIGITS) {
                kinds[tokens] = STRANGE;
            } else {
                kinds[tokens] = kind;
            }
            int number = 0;
            if (kinds[tokens] == NUMBER) {
                for (int k = from; k < to; k++) {
                    number = number * 10 + state.tape[k] - '0';
                }
            }
            numbers[tokens] = number;
            tokens++;
        }

        private static int kindOf(int c) {
            if (c >= 'a' && c <= 'z') {
                return LETTER;
            }
            if (c >= '0' && c <= '9') {
                return NUMBER;
            }
            if (c == 10 || c == 32) {
                return BLANK;
            }
            return c == ';' ? STOP : STRANGE;
        }

        private static int wordOf(State state, int from, int to) {
            int word = BOARD;
            int first = 0;
            for (int k = 0; k < WORDS.length(); k++) {
                if (WORDS.charAt(k) == ' ') {
                    if (k - first == to - from && spells(state, from, first, k)) {
                        return word;
                    }
                    word++;
                    first = k + 1;
                }
            }
            return STRANGE;
        }

        /** Has the tape from here on the signs of WORDS from first on, up to behind? */
        private static boolean spells(State state, int from, int first, int behind) {
            for (int k = first; k < behind; k++) {
                if (state.tape[from + k - first] != WORDS.charAt(k)) {
                    return false;
                }
            }
            return true;
        }

        private void readLine() {
            int first = starts[at];
            lines++;
            if (lines > LINES) {
                note(TOO_MANY, first);
            }
            int word = kinds[at];
            goOn();
            switch (word) {
                case BOARD:
                    readBoard(first);
                    break;
                case BIDDER:
                    readBidder(first);
                    break;
                case MARK:
                    readOfBidder(made.mark, 1, MARKS);
                    break;
                case PURSES:
                    readOfBidder(made.purse, 0, PURSE);
                    break;
                case EXTRA:
                    readExtra();
                    break;
                case SORT:
                    readSort(first);
                    break;
                case FRIEND:
                    readFriend();
                    break;
                case FOE:
                    readFoe();
                    break;
                case WAY:
                    readWay();
                    break;
                case BAR:
                    readBar();
                    break;
                default:
                    stumble(first);
            }
        }

        private void readBoard(int first) {
            if (made.boards >= BOARDS) {
                note(TOO_MANY, first);
            }
            int where = starts[at];
            int pass = takeNumber(0, TOP);
            if (made.boards > 0 && pass > made.pass[made.boards - 1]) {
                note(MORE_PASS, where);
            }
            takeStop();
            if (fault == 0 && made.boards < BOARDS) {
                made.pass[made.boards] = pass;
                made.boards++;
            }
        }

        private void readBidder(int first) {
            if (made.bidders >= BIDDERS) {
                note(TOO_MANY, first);
            }
            int value = takeNumber(0, TOP);
            int bid = takeNumber(0, TOP);
            takeStop();
            if (fault == 0 && made.bidders < BIDDERS) {
                made.value[made.bidders] = value;
                made.bid[made.bidders] = bid;
                made.bidders++;
            }
        }

        private void readOfBidder(int[] row, int least, int most) {
            int bidder = takeBidder();
            int n = takeNumber(least, most);
            takeStop();
            if (fault == 0 && made.hasBidder(bidder)) {
                row[bidder] = n;
            }
        }

        private void readExtra() {
            int bidder = takeBidder();
            int board = takeNumber(0, made.boards - 1);
            int amount = takeAmount();
            takeStop();
            if (fault == 0 && made.hasBidder(bidder) && made.hasBoard(board)) {
                made.extra[bidder * BOARDS + board] = amount;
            }
        }

        private void readSort(int first) {
            int bidder = takeBidder();
            if (made.hasBidder(bidder) && made.sorts[bidder] >= SORTS) {
                note(TOO_MANY, first);
            }
            int value = takeNumber(0, TOP);
            int chance = takeNumber(1, CHANCE);
            takeStop();
            if (fault == 0 && made.hasBidder(bidder) && made.sorts[bidder] < SORTS) {
                int k = bidder * SORTS + made.sorts[bidder];
                made.sortValue[k] = value;
                made.sortChance[k] = chance;
                made.sorts[bidder]++;
            }
        }

        private void readFriend() {
            int one = takeBidder();
            int other = takeOther(one);
            int amount = takeAmount();
            takeStop();
            if (fault == 0 && made.hasBidder(one) && made.hasBidder(other)) {
                made.friend[one * BIDDERS + other] = amount;
                made.friend[other * BIDDERS + one] = amount;
            }
        }

        private void readFoe() {
            int one = takeBidder();
            int other = takeOther(one);
            takeStop();
            if (fault == 0 && made.hasBidder(one) && made.hasBidder(other)) {
                made.foe[one * BIDDERS + other] = 1;
                made.foe[other * BIDDERS + one] = 1;
            }
        }

        private void readWay() {
            int word = kinds[at];
            if (word == WAY_OWN || word == WAY_NEXT || word == WAY_HARM) {
                goOn();
            } else {
                stumble(starts[at]);
            }
            takeStop();
            if (fault == 0) {
                made.way = word == WAY_OWN ? OWN : word == WAY_NEXT ? NEXT : HARM;
            }
        }

        private void readBar() {
            int bar = takeNumber(0, TOP);
            takeStop();
            if (fault == 0) {
                made.bar = bar;
            }
        }

        private int takeBidder() {
            return takeNumber(0, made.bidders - 1);
        }

        private int takeOther(int one) {
            int where = starts[at];
            int other = takeNumber(0, made.bidders - 1);
            if (other != NONE && other == one) {
                note(WRONG_NUMBER, where);
            }
            return other;
        }

        private int takeAmount() {
            int word = kinds[at];
            if (word == MORE || word == LESS) {
                goOn();
            } else {
                stumble(starts[at]);
            }
            int amount = takeNumber(0, AMOUNT);
            return word == LESS ? -amount : amount;
        }

        /** The NUMBER that comes, NONE if none comes or it can't be. */
        private int takeNumber(int least, int most) {
            int where = starts[at];
            if (kinds[at] != NUMBER) {
                stumble(where);
                return NONE;
            }
            int n = numbers[at];
            goOn();
            if (n < least || n > most) {
                note(WRONG_NUMBER, where);
                return NONE;
            }
            return n;
        }

        private void takeStop() {
            if (kinds[at] == STOP) {
                goOn();
            } else {
                stumble(starts[at]);
            }
        }

        private void goOn() {
            if (at < tokens) {
                at++;
            }
        }

        /** Tokens come by place: what is noted first is the first. */
        private void note(int what, int where) {
            if (fault == 0) {
                fault = what;
                place = where;
            }
        }

        /** This fault goes before all others, even those ahead of it. */
        private void stumble(int where) {
            if (fault != NO_TEXT) {
                fault = NO_TEXT;
                place = where;
            }
        }
    }

    /** ORDER, with a place for one BIDDER who comes. The first ones stand on the BOARDS. */
    private static final class Line {
        /** One PASS more than there are BOARDS: that behind the last is 0. */
        final int[] pass = new int[BOARDS + 1];
        final int[] who = new int[BIDDERS + 1];
        final int[] bids = new int[BIDDERS + 1];
        final int[] marks = new int[BIDDERS + 1];
        /** 0 behind the line, for as many as there may be BOARDS. */
        final int[] scores = new int[BIDDERS + 1 + BOARDS];
        int boards;
        int way;
        int bar;
        int length;

        void open(Sale sale, int least) {
            boards = sale.boards;
            way = sale.way;
            bar = least;
            length = 0;
            for (int j = 0; j < BOARDS; j++) {
                pass[j] = j < boards ? sale.pass[j] : 0;
            }
            for (int p = 0; p <= BIDDERS; p++) {
                scores[p] = 0;
            }
        }

        void lineUp(Sale sale) {
            open(sale, sale.bar);
            putOthers(sale, sale.bid, NONE);
        }

        void putOthers(Sale sale, int[] row, int except) {
            for (int i = 0; i < sale.bidders; i++) {
                if (i != except) {
                    putIn(i, row[i], sale.mark[i]);
                }
            }
        }

        /** His place in the line, NONE if such a BID has none. */
        int putIn(int bidder, int bid, int mark) {
            if (!admits(bid) || length > BIDDERS) {
                return NONE;
            }
            int p = placeFrom(length, bidder, bid * mark);
            for (int q = length; q > p; q--) {
                who[q] = who[q - 1];
                bids[q] = bids[q - 1];
                marks[q] = marks[q - 1];
                scores[q] = scores[q - 1];
            }
            who[p] = bidder;
            bids[p] = bid;
            marks[p] = mark;
            scores[p] = bid * mark;
            length++;
            return p;
        }

        void dropAt(int p) {
            if (p < 0 || p >= length) {
                return;
            }
            length--;
            for (int q = p; q < length; q++) {
                who[q] = who[q + 1];
                bids[q] = bids[q + 1];
                marks[q] = marks[q + 1];
                scores[q] = scores[q + 1];
            }
            scores[length] = 0;
        }

        /** Those who bid less than this stand in the line no more. */
        void raiseBar(int higher) {
            bar = higher;
            for (int p = length - 1; p >= 0; p--) {
                if (bids[p] < higher) {
                    dropAt(p);
                }
            }
        }

        int leastBid() {
            int least = TOP;
            for (int p = 0; p < length; p++) {
                least = Math.min(least, bids[p]);
            }
            return least;
        }

        boolean admits(int bid) {
            return bid >= bar && bid > 0;
        }

        /** The place of a SCORE in the line, known not to be behind the one that is told. */
        int placeFrom(int place, int bidder, int score) {
            int p = Math.min(place, length);
            while (p > 0) {
                int his = scores[p - 1];
                if (his > score || his == score && who[p - 1] < bidder) {
                    break;
                }
                p--;
            }
            return p;
        }

        int countStanding() {
            return Math.min(length, boards);
        }

        int whoStands(int board) {
            return board >= 0 && board < countStanding() ? who[board] : NONE;
        }

        int boardOf(int bidder) {
            int standing = countStanding();
            for (int p = 0; p < standing; p++) {
                if (who[p] == bidder) {
                    return p;
                }
            }
            return NONE;
        }

        /** PAY of who stands on a BOARD, 0 where nobody does. */
        int payAt(int board) {
            if (board < 0 || board >= countStanding()) {
                return 0;
            }
            return Math.max(bar * pass[board], askFor(board, bids[board], marks[board], board + 1));
        }

        /**
         * PAY but for the BAR: by each WAY it is that, or what the BAR asks if that is more. Those
         * behind him are the line's from a place on, as he himself need not be in it.
         */
        private int askFor(int board, int bid, int mark, int behind) {
            // No MARK is below 1: this keeps the divisions safe.
            if (way == OWN || mark < 1) {
                return bid * pass[board];
            }
            if (way == NEXT) {
                return pass[board] * Math.max(1, (scores[behind] + mark - 1) / mark);
            }
            int sum = 0;
            for (int k = board; k < boards; k++) {
                sum += (pass[k] - pass[k + 1]) * scores[behind + k - board];
            }
            return (sum + mark - 1) / mark;
        }

        int allPays() {
            int standing = countStanding();
            int sum = 0;
            for (int p = 0; p < standing; p++) {
                sum += payAt(p);
            }
            return sum;
        }

        /** What who stands on a BOARD pays but for the BAR. */
        int askAt(int board) {
            if (board < 0 || board >= countStanding()) {
                return 0;
            }
            return askFor(board, bids[board], marks[board], board + 1);
        }

        int allWorths(Sale sale) {
            int standing = countStanding();
            int sum = 0;
            for (int p = 0; p < standing; p++) {
                sum += sale.hasBidder(who[p]) ? sale.worthTo(who[p], p) : 0;
            }
            return sum;
        }

        int gainOf(Sale sale, int bidder) {
            int board = boardOf(bidder);
            return board == NONE ? 0 : sale.worthTo(bidder, board) - payAt(board);
        }

        /** GAIN by a BID, that the BAR admits, of a BIDDER who is not in the line but would have this place. */
        int gainIfHeBids(Sale sale, int bidder, int bid, int place) {
            if (place < 0 || place >= boards) {
                return 0;
            }
            int ask = askFor(place, bid, sale.mark[bidder], place);
            return sale.worthTo(bidder, place) - Math.max(bar * pass[place], ask);
        }

        /** The first BOARD that a BIDDER would rather have, NONE if there is none. */
        int ratherThan(Sale sale, int bidder) {
            int gain = gainOf(sale, bidder);
            for (int j = 0; j < boards; j++) {
                if (sale.worthTo(bidder, j) - payAt(j) > gain) {
                    return j;
                }
            }
            return NONE;
        }

        /** In n days each of those who stand has had each of their BOARDS once. */
        int sparedInTurns(Sale sale, int bidder) {
            int standing = countStanding();
            int sum = -standing * gainOf(sale, bidder);
            for (int p = 0; p < standing; p++) {
                sum += sale.worthTo(bidder, p) - Math.max(bar, 1) * pass[p];
            }
            return sum;
        }

        /** Who stands on a BOARD or behind it, and the first who stands no more. */
        int bitsFrom(int board) {
            int bits = 0;
            for (int p = Math.max(board, 0); p < length && p <= boards; p++) {
                bits |= 1 << who[p];
            }
            return bits;
        }
    }

    /** BIDS that answer the others' BIDS. */
    private static final class Replier {
        final Line line = new Line();
        /** The BIDS that are looked at. */
        final int[] bids = new int[BIDDERS];
        /** BIDS before each ROUND. */
        final int[] past = new int[ROUNDS * BIDDERS];
        int reply;
        int rounds;
        int ending;
        int pairGain;
        int pairLesser;
        int pairOther;

        void lookAt(Sale sale) {
            System.arraycopy(sale.bid, 0, bids, 0, BIDDERS);
        }

        /** REPLY by BIDS up to a top: has it a greater GAIN than his BID? */
        boolean seekReply(Sale sale, int bidder, int top) {
            line.open(sale, sale.bar);
            line.putOthers(sale, bids, bidder);
            reply = 0;
            int most = 0;
            int place = line.length + 1;
            for (int bid = Math.max(1, line.bar); bid <= top; bid++) {
                int before = place;
                place = line.placeFrom(place, bidder, bid * sale.mark[bidder]);
                // A greater BID that has the same place never gains more.
                if (place < before) {
                    int gain = line.gainIfHeBids(sale, bidder, bid, place);
                    if (gain > most) {
                        most = gain;
                        reply = bid;
                    }
                }
            }
            return most > gainNow(sale, bidder);
        }

        /** GAIN of his BID while the line is that of the others. */
        private int gainNow(Sale sale, int bidder) {
            int bid = bids[bidder];
            if (!line.admits(bid)) {
                return 0;
            }
            int place = line.placeFrom(line.length, bidder, bid * sale.mark[bidder]);
            return line.gainIfHeBids(sale, bidder, bid, place);
        }

        int firstRestless(Sale sale, int top) {
            for (int i = 0; i < sale.bidders; i++) {
                if (seekReply(sale, i, top)) {
                    return i;
                }
            }
            return NONE;
        }

        void takeTurns(Sale sale) {
            lookAt(sale);
            rounds = 0;
            ending = 0;
            while (ending == 0 && rounds < ROUNDS) {
                System.arraycopy(bids, 0, past, rounds * BIDDERS, BIDDERS);
                rounds++;
                if (!somebodyReplies(sale)) {
                    ending = REST;
                } else if (isAsBefore()) {
                    ending = RING;
                }
            }
        }

        private boolean somebodyReplies(Sale sale) {
            boolean somebody = false;
            for (int i = 0; i < sale.bidders; i++) {
                if (seekReply(sale, i, TOP)) {
                    bids[i] = reply;
                    somebody = true;
                }
            }
            return somebody;
        }

        private boolean isAsBefore() {
            for (int r = 0; r < rounds && r < ROUNDS; r++) {
                int same = 0;
                while (same < BIDDERS && past[r * BIDDERS + same] == bids[same]) {
                    same++;
                }
                if (same == BIDDERS) {
                    return true;
                }
            }
            return false;
        }

        /** How many RESTS there are, so many at most; BIDS are then as in the last one. */
        int seekRests(Sale sale, int top, int most) {
            for (int i = 0; i < BIDDERS; i++) {
                bids[i] = 0;
            }
            int found = 0;
            for (int n = 0; n < FEW_ROWS; n++) {
                if (firstRestless(sale, top) == NONE) {
                    found++;
                }
                if (found >= most || !nextRow(sale, top)) {
                    break;
                }
            }
            return found;
        }

        private boolean nextRow(Sale sale, int top) {
            for (int i = sale.bidders - 1; i >= 0; i--) {
                if (bids[i] < top) {
                    bids[i]++;
                    return true;
                }
                bids[i] = 0;
            }
            return false;
        }

        void bidAsOne(Sale sale, int lesser, int other) {
            lookAt(sale);
            pairGain = 0;
            pairLesser = 0;
            pairOther = 0;
            for (int bid = 0; bid <= TOP; bid++) {
                bids[lesser] = bid;
                line.open(sale, sale.bar);
                line.putOthers(sale, bids, other);
                noteGain(sale, lesser, other, 0);
                bidBeside(sale, lesser, other);
            }
        }

        /** The lesser one is in the line: BIDS of the other one. */
        private void bidBeside(Sale sale, int lesser, int other) {
            int place = line.length + 1;
            for (int bid = Math.max(1, line.bar); bid <= TOP; bid++) {
                int before = place;
                place = line.placeFrom(place, other, bid * sale.mark[other]);
                // A greater BID that has the same place never makes either of them pay less.
                if (place < before) {
                    line.putIn(other, bid, sale.mark[other]);
                    noteGain(sale, lesser, other, bid);
                    line.dropAt(place);
                }
            }
        }

        private void noteGain(Sale sale, int lesser, int other, int bid) {
            int gain = line.gainOf(sale, lesser) + line.gainOf(sale, other);
            if (gain > pairGain) {
                pairGain = gain;
                pairLesser = bids[lesser];
                pairOther = bid;
            }
        }
    }

    /** BIDDERS put on BOARDS so that it is worth most. */
    private static final class Match {
        /** Behind nobody, or on the first BOARD. */
        private static final int NOBODY = 7;
        private static final int LASTS = 8;
        private static final int MASKS = 128;

        final int[] worths = new int[BIDDERS * BOARDS];
        /** The BOARDS that there are: one of them may be there twice, or not at all. */
        final int[] list = new int[BOARDS + 1];
        int listed;
        /** Who has the BOARDS of the list. */
        final int[] row = new int[BOARDS + 1];
        /** The most that BOARDS from a place of the list on are worth, by who is gone and who stood last. */
        final int[] most = new int[(BOARDS + 2) * MASKS * LASTS];
        boolean byNeighbours;

        int solveBest(Sale sale) {
            weigh(sale);
            byNeighbours = false;
            return solveWithRow(sale);
        }

        int solveTold(Sale sale, int bidder, int value) {
            weigh(sale);
            for (int j = 0; j < sale.boards; j++) {
                worths[bidder * BOARDS + j] = sale.worthBy(bidder, j, value);
            }
            byNeighbours = false;
            return solveWithRow(sale);
        }

        int solveBeside(Sale sale) {
            weigh(sale);
            byNeighbours = true;
            return solveWithRow(sale);
        }

        private void weigh(Sale sale) {
            for (int i = 0; i < sale.bidders; i++) {
                for (int j = 0; j < sale.boards; j++) {
                    worths[i * BOARDS + j] = sale.worthTo(i, j);
                }
            }
        }

        private int solveWithRow(Sale sale) {
            listBoards(sale, NONE);
            int all = solve(sale, 0);
            chooseRow(sale);
            return all;
        }

        int mostWithTwo(Sale sale, int board) {
            listBoards(sale, NONE);
            list[listed] = board;
            listed++;
            return solve(sale, 0);
        }

        int mostWithout(Sale sale, int board) {
            listBoards(sale, board);
            return solve(sale, 0);
        }

        /** What the others have less through a BIDDER who stands as in the row, that is worth so much in all. */
        int harmOf(Sale sale, int bidder, int all) {
            int board = boardOfBidder(sale, bidder);
            if (board == NONE) {
                return 0;
            }
            listBoards(sale, NONE);
            return solve(sale, 1 << bidder) - (all - worths[bidder * BOARDS + board]);
        }

        int boardOfBidder(Sale sale, int bidder) {
            for (int j = 0; j < sale.boards; j++) {
                if (row[j] == bidder) {
                    return j;
                }
            }
            return NONE;
        }

        int judge(Sale sale) {
            for (int i = 0; i < sale.bidders; i++) {
                int board = boardOfBidder(sale, i);
                int has = board == NONE ? 0 : sale.worthTo(i, board) - sale.price[board];
                if (mostAtPrices(sale, i) > has) {
                    return i;
                }
            }
            for (int j = 0; j < sale.boards; j++) {
                if (row[j] == NONE && sale.price[j] > 0) {
                    return 100 + j;
                }
            }
            return NONE;
        }

        private static int mostAtPrices(Sale sale, int bidder) {
            int greatest = 0;
            for (int j = 0; j < sale.boards; j++) {
                greatest = Math.max(greatest, sale.worthTo(bidder, j) - sale.price[j]);
            }
            return greatest;
        }

        private void listBoards(Sale sale, int except) {
            listed = 0;
            for (int j = 0; j < sale.boards; j++) {
                if (j != except) {
                    list[listed] = j;
                    listed++;
                }
            }
        }

        private int solve(Sale sale, int gone) {
            int masks = 1 << sale.bidders;
            int behindLast = slotOf(listed, masks, 0);
            for (int k = slotOf(listed, 0, 0); k < behindLast; k++) {
                most[k] = 0;
            }
            for (int j = listed - 1; j >= 0; j--) {
                for (int mask = gone; mask < masks; mask++) {
                    if (comesUp(j, mask, gone)) {
                        solveAt(sale, j, mask);
                    }
                }
            }
            return most[slotOf(0, gone, NOBODY)];
        }

        /** Ahead of the j-th BOARD no more than j can have been placed beside those who are gone. */
        private static boolean comesUp(int j, int mask, int gone) {
            return (mask & gone) == gone && Integer.bitCount(mask) <= j + Integer.bitCount(gone);
        }

        private void solveAt(Sale sale, int j, int mask) {
            for (int last = byNeighbours ? 0 : NOBODY; last <= NOBODY; last++) {
                if (last < NOBODY && (mask >> last & 1) == 0) {
                    continue;
                }
                int greatest = most[slotOf(j + 1, mask, NOBODY)];
                for (int i = 0; i < sale.bidders; i++) {
                    if (mayStand(sale, mask, last, i)) {
                        greatest = Math.max(greatest, mostWithHim(sale, j, mask, last, i));
                    }
                }
                most[slotOf(j, mask, last)] = greatest;
            }
        }

        private void chooseRow(Sale sale) {
            int mask = 0;
            int last = NOBODY;
            for (int j = 0; j < listed; j++) {
                int who = chooseFor(sale, j, mask, last);
                row[j] = who;
                last = lastBehind(who);
                if (who != NONE) {
                    mask |= 1 << who;
                }
            }
        }

        private int chooseFor(Sale sale, int j, int mask, int last) {
            int greatest = most[slotOf(j, mask, last)];
            for (int i = 0; i < sale.bidders; i++) {
                if (mayStand(sale, mask, last, i) && mostWithHim(sale, j, mask, last, i) == greatest) {
                    return i;
                }
            }
            return NONE;
        }

        private static boolean mayStand(Sale sale, int mask, int last, int bidder) {
            return (mask >> bidder & 1) == 0 && (last == NOBODY || sale.foe[last * BIDDERS + bidder] == 0);
        }

        private int mostWithHim(Sale sale, int j, int mask, int last, int bidder) {
            int friendly = last == NOBODY ? 0 : sale.friend[last * BIDDERS + bidder];
            int rest = most[slotOf(j + 1, mask | 1 << bidder, lastBehind(bidder))];
            return worths[bidder * BOARDS + list[j]] + friendly + rest;
        }

        private int lastBehind(int bidder) {
            return byNeighbours && bidder != NONE ? bidder : NOBODY;
        }

        private static int slotOf(int j, int mask, int last) {
            return (j * MASKS + mask) * LASTS + last;
        }
    }

    /** All rows of SORTS. */
    private static final class Chances {
        /** Rows of three SORTS of seven BIDDERS. */
        private static final int ROWS = 2187;

        final Line line = new Line();
        final int[] picked = new int[BIDDERS];
        final int[] bids = new int[BIDDERS];
        /** By BARS or BIDS 0 .. 99. */
        final long[] sums = new long[TOP + 1];
        /** By BARS: from here on so much more is paid; and so much more for each 1 of the BAR. */
        final long[] flat = new long[TOP + 2];
        final long[] steep = new long[TOP + 2];

        long allParts(Sale sale) {
            long product = 1;
            for (int i = 0; i < sale.bidders; i++) {
                int sum = 0;
                for (int k = 0; k < sale.sorts[i]; k++) {
                    sum += sale.sortChance[i * SORTS + k];
                }
                if (sale.sorts[i] > 0) {
                    product *= sum;
                }
            }
            return product;
        }

        long takenWith(Sale sale, int bar) {
            long sum = 0;
            firstRow(sale);
            boolean more = true;
            for (int n = 0; n < ROWS && more; n++) {
                line.open(sale, bar);
                line.putOthers(sale, bids, NONE);
                sum += partsOfRow(sale, NONE) * line.allPays();
                more = nextRowOfSorts(sale, NONE);
            }
            return sum;
        }

        void addUpBars(Sale sale) {
            for (int k = 0; k <= TOP + 1; k++) {
                flat[k] = 0;
                steep[k] = 0;
            }
            firstRow(sale);
            boolean more = true;
            for (int n = 0; n < ROWS && more; n++) {
                addBarsOfRow(sale, partsOfRow(sale, NONE));
                more = nextRowOfSorts(sale, NONE);
            }
            long level = 0;
            long slope = 0;
            for (int bar = 0; bar <= TOP; bar++) {
                level += flat[bar];
                slope += steep[bar];
                sums[bar] = level + slope * bar;
            }
        }

        /** The line changes only where the BAR passes a BID. */
        private void addBarsOfRow(Sale sale, long weight) {
            line.open(sale, 0);
            line.putOthers(sale, bids, NONE);
            int from = 0;
            for (int n = 0; n < BIDDERS && line.length > 0; n++) {
                int to = line.leastBid() + 1;
                addPays(from, to, weight);
                line.raiseBar(to);
                from = to;
            }
        }

        /** With BARS from one on, below another one: the line's PAYS. */
        private void addPays(int from, int to, long weight) {
            int standing = line.countStanding();
            for (int p = 0; p < standing; p++) {
                int ask = line.askAt(p);
                int pass = line.pass[p];
                int turn = pass < 1 ? to : ask / pass + 1;
                turn = Math.min(to, Math.max(from, turn));
                flat[from] += weight * ask;
                flat[turn] -= weight * ask;
                steep[turn] += weight * pass;
                steep[to] -= weight * pass;
            }
        }

        void addUpGains(Sale sale, int bidder) {
            for (int k = 0; k <= TOP; k++) {
                sums[k] = 0;
            }
            firstRow(sale);
            boolean more = true;
            for (int n = 0; n < ROWS && more; n++) {
                line.open(sale, sale.bar);
                line.putOthers(sale, bids, bidder);
                addGainsOfRow(sale, bidder, partsOfRow(sale, bidder));
                more = nextRowOfSorts(sale, bidder);
            }
        }

        private void addGainsOfRow(Sale sale, int bidder, long weight) {
            int place = line.length + 1;
            int gain = 0;
            for (int bid = Math.max(1, line.bar); bid <= TOP; bid++) {
                int before = place;
                place = line.placeFrom(place, bidder, bid * sale.mark[bidder]);
                if (place < before || line.way == OWN) {
                    gain = line.gainIfHeBids(sale, bidder, bid, place);
                }
                sums[bid] += weight * gain;
            }
        }

        int firstGreatest() {
            int first = 0;
            for (int k = 1; k <= TOP; k++) {
                if (sums[k] > sums[first]) {
                    first = k;
                }
            }
            return first;
        }

        private void firstRow(Sale sale) {
            for (int i = 0; i < sale.bidders; i++) {
                pick(sale, i, 0);
            }
        }

        private void pick(Sale sale, int bidder, int sort) {
            picked[bidder] = sort;
            bids[bidder] = sort < sale.sorts[bidder] ? sale.sortValue[bidder * SORTS + sort] : sale.bid[bidder];
        }

        /** The SORTS of one BIDDER (or of nobody, NONE) count for nothing. */
        private boolean nextRowOfSorts(Sale sale, int except) {
            for (int i = sale.bidders - 1; i >= 0; i--) {
                if (i == except) {
                    continue;
                }
                if (picked[i] + 1 < sale.sorts[i]) {
                    pick(sale, i, picked[i] + 1);
                    return true;
                }
                pick(sale, i, 0);
            }
            return false;
        }

        private long partsOfRow(Sale sale, int except) {
            long product = 1;
            for (int i = 0; i < sale.bidders; i++) {
                if (i != except && picked[i] < sale.sorts[i]) {
                    product *= sale.sortChance[i * SORTS + picked[i]];
                }
            }
            return product;
        }
    }

    /** PURSES, day by day. */
    private static final class Purses {
        final Line line = new Line();
        final int[] left = new int[BIDDERS];
        /** The day from which on a BIDDER stands no more. */
        final int[] endedOn = new int[BIDDERS];

        /** The line is that of the last day then. */
        void sellFor(Sale sale, int days) {
            for (int i = 0; i < BIDDERS; i++) {
                left[i] = sale.purse[i];
                endedOn[i] = NONE;
            }
            for (int d = 1; d <= days; d++) {
                sellOn(sale, d);
            }
        }

        private void sellOn(Sale sale, int d) {
            lineUpLeft(sale);
            int poor = firstWhoCannotPay();
            for (int n = 0; n < BIDDERS && poor != NONE; n++) {
                endedOn[poor] = d;
                lineUpLeft(sale);
                poor = firstWhoCannotPay();
            }
            int standing = line.countStanding();
            for (int p = 0; p < standing; p++) {
                left[line.who[p]] -= line.payAt(p);
            }
        }

        private void lineUpLeft(Sale sale) {
            line.open(sale, sale.bar);
            for (int i = 0; i < sale.bidders; i++) {
                if (endedOn[i] == NONE) {
                    line.putIn(i, sale.bid[i], sale.mark[i]);
                }
            }
        }

        private int firstWhoCannotPay() {
            int standing = line.countStanding();
            for (int p = 0; p < standing; p++) {
                if (left[line.who[p]] < line.payAt(p)) {
                    return line.who[p];
                }
            }
            return NONE;
        }
    }

    /** Prices that climb. */
    private static final class Climber {
        /** All sets of BOARDS, those of the fewest first, of alike ones the least first. */
        private static final int[] SETS = {
            1, 2, 4, 8, 16, 32,
            3, 5, 6, 9, 10, 12, 17, 18, 20, 24, 33, 34, 36, 40, 48,
            7, 11, 13, 14, 19, 21, 22, 25, 26, 28, 35, 37, 38, 41, 42, 44, 49, 50, 52, 56,
            15, 23, 27, 29, 30, 39, 43, 45, 46, 51, 53, 54, 57, 58, 60,
            31, 47, 55, 59, 61, 62,
            63
        };

        final int[] prices = new int[BOARDS];
        /** The BOARDS that each BIDDER wants, as bits. */
        final int[] wants = new int[BIDDERS];

        /** How many ROUNDS there were, so many at most. */
        int climbFor(Sale sale, int most) {
            for (int j = 0; j < BOARDS; j++) {
                prices[j] = 0;
            }
            int rounds = 0;
            boolean ends = false;
            while (rounds < most && !ends) {
                int set = crowdedSet(sale);
                ends = set == 0;
                if (!ends) {
                    raisePrices(set);
                    rounds++;
                }
            }
            return rounds;
        }

        private void raisePrices(int set) {
            for (int j = 0; j < BOARDS; j++) {
                prices[j] += set >> j & 1;
            }
        }

        /** 0 if there is none. */
        private int crowdedSet(Sale sale) {
            for (int i = 0; i < sale.bidders; i++) {
                wants[i] = wantedBy(sale, i);
            }
            for (int k = 0; k < SETS.length; k++) {
                int set = SETS[k];
                if (set < 1 << sale.boards && countCrowd(sale, set) > Integer.bitCount(set)) {
                    return set;
                }
            }
            return 0;
        }

        private int wantedBy(Sale sale, int bidder) {
            int greatest = 0;
            int bits = 0;
            for (int j = 0; j < sale.boards; j++) {
                int left = sale.worthTo(bidder, j) - prices[j];
                if (left > greatest) {
                    greatest = left;
                    bits = 0;
                }
                if (left > 0 && left == greatest) {
                    bits |= 1 << j;
                }
            }
            return bits;
        }

        private int countCrowd(Sale sale, int set) {
            int crowd = 0;
            for (int i = 0; i < sale.bidders; i++) {
                if (wants[i] != 0 && (wants[i] & ~set) == 0) {
                    crowd++;
                }
            }
            return crowd;
        }
    }
}
