import java.util.ArrayList;
import java.util.Arrays;
import java.util.List;

/**
 * The document once more, as plainly as it can be said: everything is tried, nothing is kept for
 * later. It shares no code with RoadBoards, so that one can be held against the other.
 */
final class PlainBoards {
    static final int NONE = -1;

    static final class Sale {
        List<Integer> pass = new ArrayList<>();
        List<int[]> bidders = new ArrayList<>(); // value, bid, mark, purse
        int way = 1;
        int bar = 0;
        int[][] extra = new int[7][6];
        List<List<int[]>> sorts = new ArrayList<>(); // value, chance
        int[][] friend = new int[7][7];
        boolean[][] foe = new boolean[7][7];
        int[] price = new int[6];

        Sale copy() {
            Sale c = new Sale();
            c.pass.addAll(pass);
            for (int[] b : bidders) c.bidders.add(b.clone());
            c.way = way;
            c.bar = bar;
            for (List<int[]> l : sorts) {
                List<int[]> n = new ArrayList<>();
                for (int[] x : l) n.add(x.clone());
                c.sorts.add(n);
            }
            for (int i = 0; i < 7; i++) {
                c.extra[i] = extra[i].clone();
                c.friend[i] = friend[i].clone();
                c.foe[i] = foe[i].clone();
            }
            c.price = price.clone();
            return c;
        }

        int boards() { return pass.size(); }
        int many() { return bidders.size(); }
        int worth(int i, int j) { return worthBy(i, j, bidders.get(i)[0]); }
        int worthBy(int i, int j, int value) { return Math.max(0, value * pass.get(j) + extra[i][j]); }
        int[] bids() {
            int[] r = new int[many()];
            for (int i = 0; i < r.length; i++) r[i] = bidders.get(i)[1];
            return r;
        }
        int[] marks() {
            int[] r = new int[many()];
            for (int i = 0; i < r.length; i++) r[i] = bidders.get(i)[2];
            return r;
        }
        boolean board(int j) { return j >= 0 && j < boards(); }
        boolean bidder(int i) { return i >= 0 && i < many(); }
    }

    static final class State {
        List<Byte> tape = new ArrayList<>();
        int fault = 0;
        int place = NONE;
        List<Sale> sales = new ArrayList<>();

        State copy() {
            State c = new State();
            c.tape.addAll(tape);
            c.fault = fault;
            c.place = place;
            for (Sale s : sales) c.sales.add(s.copy());
            return c;
        }
    }

    State now = new State();
    State[] images = new State[3];

    int feed(int a, int b, int c, int d, int e) {
        if (now.tape.size() > 480) return NONE;
        for (int n : new int[] {a, b, c, d, e}) {
            now.tape.add((byte) (n >>> 24));
            now.tape.add((byte) (n >>> 16));
            now.tape.add((byte) (n >>> 8));
            now.tape.add((byte) n);
        }
        return now.tape.size();
    }

    int end(int n) {
        if (n < 0 || n > now.tape.size()) return NONE;
        while (now.tape.size() > n) now.tape.remove(now.tape.size() - 1);
        return n;
    }

    int sale(int at) {
        List<Byte> tape = now.tape;
        now.tape = new ArrayList<>();
        now.fault = 0;
        now.place = NONE;
        if (at == NONE ? now.sales.size() == 3 : at < 0 || at >= now.sales.size()) return -2;
        PlainText text = new PlainText(tape);
        now.fault = text.fault;
        now.place = text.place;
        if (text.fault != 0) return NONE;
        if (at == NONE) {
            now.sales.add(text.sale);
            return now.sales.size() - 1;
        }
        now.sales.set(at, text.sale);
        return at;
    }

    int fault(int what) { return what == 0 ? now.fault : what == 1 ? now.place : NONE; }

    Sale of(int sale) { return sale >= 0 && sale < now.sales.size() ? now.sales.get(sale) : null; }

    int about(int sale, int what) {
        Sale s = of(sale);
        if (s == null) return NONE;
        if (what == 0) return s.boards();
        if (what == 1) return s.many();
        if (what == 2) return s.way;
        if (what == 3) return s.bar;
        for (int j = 0; j < s.boards(); j++) if (what == 10 + j) return s.pass.get(j);
        for (int i = 0; i < s.many(); i++) {
            for (int f = 0; f < 4; f++) if (what == 20 + 10 * f + i) return s.bidders.get(i)[f];
            if (what == 60 + i) return s.sorts.get(i).size();
        }
        return NONE;
    }

    int worth(int sale, int bidder, int board) {
        Sale s = of(sale);
        return s == null || !s.bidder(bidder) || !s.board(board) ? NONE : s.worth(bidder, board);
    }

    boolean bid(int sale, int bidder, int bid) {
        Sale s = of(sale);
        if (s == null || !s.bidder(bidder) || bid < 0 || bid > 99) return false;
        s.bidders.get(bidder)[1] = bid;
        return true;
    }

    boolean rule(int sale, int way, int bar) {
        Sale s = of(sale);
        if (s == null || way < 0 || way > 2 || bar < 0 || bar > 99) return false;
        s.way = way;
        s.bar = bar;
        return true;
    }

    /** ORDER; out: those who do not bid at all. */
    static List<Integer> order(int[] bids, int[] marks, int bar, int out) {
        List<Integer> order = new ArrayList<>();
        for (int i = 0; i < bids.length; i++) {
            if ((out >> i & 1) == 0 && bids[i] >= bar && bids[i] > 0) order.add(i);
        }
        order.sort((x, y) -> bids[x] * marks[x] != bids[y] * marks[y]
            ? bids[y] * marks[y] - bids[x] * marks[x] : x - y);
        return order;
    }

    /** PAYS by BOARDS, as long as somebody stands there. */
    static int[] pays(List<Integer> pass, int way, int bar, int[] bids, int[] marks, List<Integer> order) {
        int n = Math.min(order.size(), pass.size());
        int[] pays = new int[n];
        for (int p = 0; p < n; p++) {
            int i = order.get(p);
            if (way == 0) {
                pays[p] = bids[i] * pass.get(p);
            } else if (way == 1) {
                int score = p + 1 < order.size() ? bids[order.get(p + 1)] * marks[order.get(p + 1)] : 0;
                int least = Math.max(bar, 1);
                while (least * marks[i] < score) least++;
                pays[p] = pass.get(p) * least;
            } else {
                int sum = 0;
                for (int k = p; k < pass.size(); k++) {
                    int less = k + 1 < pass.size() ? pass.get(k + 1) : 0;
                    int score = k + 1 < order.size() ? bids[order.get(k + 1)] * marks[order.get(k + 1)] : 0;
                    sum += (pass.get(k) - less) * score;
                }
                int least = bar * pass.get(p);
                while (least * marks[i] < sum) least++;
                pays[p] = least;
            }
        }
        return pays;
    }

    static int[] pays(Sale s, int[] bids, int[] marks, int bar, int out) {
        return pays(s.pass, s.way, bar, bids, marks, order(bids, marks, bar, out));
    }

    static int gain(Sale s, int[] bids, int i) {
        List<Integer> order = order(bids, s.marks(), s.bar, 0);
        int p = order.indexOf(i);
        return p < 0 || p >= s.boards() ? 0 : s.worth(i, p) - pays(s, bids, s.marks(), s.bar, 0)[p];
    }

    static int sum(int[] row) { return Arrays.stream(row).sum(); }

    int stands(int sale, int board) {
        Sale s = of(sale);
        if (s == null || !s.board(board)) return NONE;
        List<Integer> order = order(s.bids(), s.marks(), s.bar, 0);
        return board < order.size() ? order.get(board) : NONE;
    }

    int pay(int sale, int bidder, boolean gain) {
        Sale s = of(sale);
        if (s == null || !s.bidder(bidder)) return -100000;
        if (gain) return gain(s, s.bids(), bidder);
        int p = order(s.bids(), s.marks(), s.bar, 0).indexOf(bidder);
        return p < 0 || p >= s.boards() ? 0 : pays(s, s.bids(), s.marks(), s.bar, 0)[p];
    }

    int take(int sale) {
        Sale s = of(sale);
        return s == null ? NONE : sum(pays(s, s.bids(), s.marks(), s.bar, 0));
    }

    int rather(int sale, boolean board) {
        Sale s = of(sale);
        if (s == null) return NONE;
        int[] pays = pays(s, s.bids(), s.marks(), s.bar, 0);
        for (int i = 0; i < s.many(); i++) {
            for (int j = 0; j < s.boards(); j++) {
                if (s.worth(i, j) - (j < pays.length ? pays[j] : 0) > gain(s, s.bids(), i)) return board ? j : i;
            }
        }
        return NONE;
    }

    static int reply(Sale s, int[] bids, int i, int top) {
        int[] b = bids.clone();
        int best = 0;
        int most = Integer.MIN_VALUE;
        for (int x = 0; x <= top; x++) {
            b[i] = x;
            int g = gain(s, b, i);
            if (g > most) {
                most = g;
                best = x;
            }
        }
        return best;
    }

    static boolean better(Sale s, int[] bids, int i, int bid) {
        int[] b = bids.clone();
        b[i] = bid;
        return gain(s, b, i) > gain(s, bids, i);
    }

    int reply(int sale, int bidder) {
        Sale s = of(sale);
        return s == null || !s.bidder(bidder) ? NONE : reply(s, s.bids(), bidder, 99);
    }

    int restless(int sale) {
        Sale s = of(sale);
        if (s == null) return NONE;
        for (int i = 0; i < s.many(); i++) {
            for (int x = 0; x <= 99; x++) if (better(s, s.bids(), i, x)) return i;
        }
        return NONE;
    }

    int replies(int sale, int what) {
        Sale s = of(sale);
        if (s == null || what < 0 || what > 1 && (what < 10 || !s.bidder(what - 10))) return NONE;
        int[] bids = s.bids();
        List<int[]> before = new ArrayList<>();
        int ending = 0;
        int rounds = 0;
        for (; rounds < 40 && ending == 0; rounds++) {
            before.add(bids.clone());
            boolean any = false;
            for (int i = 0; i < s.many(); i++) {
                int r = reply(s, bids, i, 99);
                if (better(s, bids, i, r)) {
                    bids[i] = r;
                    any = true;
                }
            }
            if (!any) ending = 1;
            else for (int[] b : before) if (Arrays.equals(b, bids)) ending = 2;
        }
        return what == 0 ? rounds : what == 1 ? ending : bids[what - 10];
    }

    List<int[]> allRests(Sale s, int top) {
        List<int[]> rests = new ArrayList<>();
        allRests(s, top, new int[s.many()], 0, rests);
        return rests;
    }

    private void allRests(Sale s, int top, int[] bids, int i, List<int[]> rests) {
        if (i == bids.length) {
            for (int k = 0; k < bids.length; k++) {
                for (int x = 0; x <= top; x++) if (better(s, bids, k, x)) return;
            }
            rests.add(bids.clone());
            return;
        }
        for (int x = 0; x <= top; x++) {
            bids[i] = x;
            allRests(s, top, bids, i + 1, rests);
        }
    }

    int rests(int sale, int top) {
        Sale s = of(sale);
        return s == null || s.many() > 4 || top < 0 || top > 5 ? NONE : allRests(s, top).size();
    }

    int rest(int sale, int top, int k, int bidder) {
        Sale s = of(sale);
        if (s == null || s.many() > 4 || top < 0 || top > 5 || !s.bidder(bidder) || k < 0) return NONE;
        List<int[]> rests = allRests(s, top);
        return k < rests.size() ? rests.get(k)[bidder] : NONE;
    }

    /** Tries every row of BIDDERS on the BOARDS of a list, the least rows first. */
    static final class Rows {
        final int[][] worth;
        final int[] list;
        final Sale neighbours;
        int most = Integer.MIN_VALUE;
        int[] row;

        Rows(int[][] worth, int[] list, int gone, Sale neighbours) {
            this.worth = worth;
            this.list = list;
            this.neighbours = neighbours;
            go(new int[list.length], 0, gone, 0);
        }

        private void go(int[] who, int j, int gone, int sum) {
            if (j == list.length) {
                if (sum > most) {
                    most = sum;
                    row = who.clone();
                }
                return;
            }
            for (int i = 0; i < worth.length; i++) {
                if ((gone >> i & 1) == 1) continue;
                int more = worth[i][list[j]];
                if (neighbours != null && j > 0 && who[j - 1] != NONE) {
                    if (neighbours.foe[who[j - 1]][i]) continue;
                    more += neighbours.friend[who[j - 1]][i];
                }
                who[j] = i;
                go(who, j + 1, gone | 1 << i, sum + more);
            }
            who[j] = NONE;
            go(who, j + 1, gone, sum);
        }
    }

    static int[][] worths(Sale s) {
        int[][] w = new int[s.many()][s.boards()];
        for (int i = 0; i < s.many(); i++) for (int j = 0; j < s.boards(); j++) w[i][j] = s.worth(i, j);
        return w;
    }

    static int[] all(Sale s) {
        int[] list = new int[s.boards()];
        for (int j = 0; j < list.length; j++) list[j] = j;
        return list;
    }

    static Rows bestRows(Sale s) { return new Rows(worths(s), all(s), 0, null); }

    static int find(int[] row, int who) {
        for (int j = 0; j < row.length; j++) if (row[j] == who) return j;
        return NONE;
    }

    int best(int sale, int what) {
        Sale s = of(sale);
        if (s == null) return NONE;
        if (what == 0) return bestRows(s).most;
        if (what == 1) {
            List<Integer> order = order(s.bids(), s.marks(), s.bar, 0);
            int sum = 0;
            for (int p = 0; p < order.size() && p < s.boards(); p++) sum += s.worth(order.get(p), p);
            return sum;
        }
        return what >= 10 && s.board(what - 10) ? bestRows(s).row[what - 10] : NONE;
    }

    int even(int sale, int board, boolean most) {
        Sale s = of(sale);
        if (s == null || !s.board(board)) return NONE;
        List<Integer> list = new ArrayList<>();
        for (int j = 0; j < s.boards(); j++) {
            if (j != board || !most) list.add(j);
            if (j == board && !most) list.add(j);
        }
        int other = new Rows(worths(s), list.stream().mapToInt(x -> x).toArray(), 0, null).most;
        return Math.abs(other - bestRows(s).most);
    }

    int truly(int sale, int bidder) {
        Sale s = of(sale);
        if (s == null || !s.bidder(bidder)) return NONE;
        Rows best = bestRows(s);
        int others = 0;
        for (int j = 0; j < s.boards(); j++) {
            if (best.row[j] != NONE && best.row[j] != bidder) others += s.worth(best.row[j], j);
        }
        if (find(best.row, bidder) == NONE) return 0;
        return new Rows(worths(s), all(s), 1 << bidder, null).most - others;
    }

    boolean price(int sale, int board, int price) {
        Sale s = of(sale);
        if (s == null || !s.board(board) || price < 0 || price > 9999) return false;
        s.price[board] = price;
        return true;
    }

    int judged(int sale) {
        Sale s = of(sale);
        if (s == null) return NONE;
        int[] row = bestRows(s).row;
        for (int i = 0; i < s.many(); i++) {
            int j = find(row, i);
            int has = j == NONE ? 0 : s.worth(i, j) - s.price[j];
            if (has < 0) return i;
            for (int k = 0; k < s.boards(); k++) if (s.worth(i, k) - s.price[k] > has) return i;
        }
        for (int j = 0; j < s.boards(); j++) if (row[j] == NONE && s.price[j] > 0) return 100 + j;
        return NONE;
    }

    long parts(int sale) {
        Sale s = of(sale);
        if (s == null) return NONE;
        long parts = 1;
        for (List<int[]> l : s.sorts) if (!l.isEmpty()) parts *= l.stream().mapToInt(x -> x[1]).sum();
        return parts;
    }

    static long taken(Sale s, int bar, int[] bids, int i, long chance) {
        if (i == s.many()) return chance * sum(pays(s, bids, s.marks(), bar, 0));
        if (s.sorts.get(i).isEmpty()) return taken(s, bar, bids, i + 1, chance);
        long sum = 0;
        int kept = bids[i];
        for (int[] sort : s.sorts.get(i)) {
            bids[i] = sort[0];
            sum += taken(s, bar, bids, i + 1, chance * sort[1]);
        }
        bids[i] = kept;
        return sum;
    }

    long taken(int sale, int bar) {
        Sale s = of(sale);
        return s == null || bar < 0 || bar > 99 ? NONE : taken(s, bar, s.bids(), 0, 1);
    }

    int high(int sale) {
        Sale s = of(sale);
        if (s == null) return NONE;
        int high = 0;
        long most = -1;
        for (int bar = 0; bar <= 99; bar++) {
            long t = taken(s, bar, s.bids(), 0, 1);
            if (t > most) {
                most = t;
                high = bar;
            }
        }
        return high;
    }

    /** DAYS up to the d-th one: TAKE, then PURSES, who stood, and from when on each stands no more. */
    static final class Days {
        int take;
        int[] purse;
        int[] stood;
        int[] ended;

        Days(Sale s, int until) {
            purse = new int[s.many()];
            ended = new int[s.many()];
            for (int i = 0; i < s.many(); i++) purse[i] = s.bidders.get(i)[3];
            Arrays.fill(ended, NONE);
            int out = 0;
            for (int d = 1; d <= until; d++) {
                List<Integer> order;
                int[] pays;
                while (true) {
                    order = order(s.bids(), s.marks(), s.bar, out);
                    pays = pays(s, s.bids(), s.marks(), s.bar, out);
                    int poor = NONE;
                    for (int p = pays.length - 1; p >= 0; p--) if (purse[order.get(p)] < pays[p]) poor = order.get(p);
                    if (poor == NONE) break;
                    out |= 1 << poor;
                    ended[poor] = d;
                }
                take = sum(pays);
                stood = new int[s.boards()];
                Arrays.fill(stood, NONE);
                for (int p = 0; p < pays.length; p++) {
                    stood[p] = order.get(p);
                    purse[order.get(p)] -= pays[p];
                }
            }
        }
    }

    int day(int sale, int d, int what) {
        Sale s = of(sale);
        if (s == null || d < 1 || d > 60) return NONE;
        Days days = new Days(s, d);
        if (what == 0) return days.take;
        for (int i = 0; i < s.many(); i++) if (what == 10 + i) return days.purse[i];
        for (int j = 0; j < s.boards(); j++) if (what == 20 + j) return days.stood[j];
        return NONE;
    }

    int spent(int sale, int bidder) {
        Sale s = of(sale);
        return s == null || !s.bidder(bidder) ? NONE : new Days(s, 60).ended[bidder];
    }

    int beside(int sale, int what) {
        Sale s = of(sale);
        if (s == null || what != 0 && (what < 10 || !s.board(what - 10))) return -100000;
        Rows rows = new Rows(worths(s), all(s), 0, s);
        if (what == 0) return rows.most;
        return rows.row[what - 10] == NONE ? -100000 : rows.row[what - 10];
    }

    int come(int sale, int value, int bid) {
        Sale s = of(sale);
        if (s == null || value < 0 || value > 99 || bid < 0 || bid > 99) return NONE;
        Sale t = s.copy();
        t.bidders.add(new int[] {value, bid, 1, 9999});
        List<Integer> before = order(s.bids(), s.marks(), s.bar, 0);
        List<Integer> then = order(t.bids(), t.marks(), t.bar, 0);
        before = before.subList(0, Math.min(before.size(), s.boards()));
        then = then.subList(0, Math.min(then.size(), s.boards()));
        int p = then.indexOf(s.many());
        if (p >= 0 && value * s.pass.get(p) - pays(t, t.bids(), t.marks(), t.bar, 0)[p] < 0) return 0;
        int bits = 0;
        for (int i = 0; i <= s.many(); i++) if (before.indexOf(i) != then.indexOf(i)) bits |= 1 << i;
        return bits;
    }

    int spared(int sale, int bidder) {
        Sale s = of(sale);
        if (s == null || !s.bidder(bidder)) return -1000000;
        List<Integer> order = order(s.bids(), s.marks(), s.bar, 0);
        int n = Math.min(order.size(), s.boards());
        int p = order.indexOf(bidder);
        if (p < 0 || p >= n) return -1000000;
        int sum = 0;
        for (int d = 0; d < n; d++) {
            int j = (p + d) % n;
            sum += s.worth(bidder, j) - Math.max(s.bar, 1) * s.pass.get(j) - gain(s, s.bids(), bidder);
        }
        return sum;
    }

    int breaks(int sale) {
        Sale s = of(sale);
        if (s == null) return NONE;
        for (int i = 0; i < s.many(); i++) {
            int spared = spared(sale, i);
            if (spared != -1000000 && spared < 0) return i;
        }
        return NONE;
    }

    int mark(int sale, int bidder) {
        Sale s = of(sale);
        if (s == null || !s.bidder(bidder)) return NONE;
        int high = 1;
        int most = -1;
        for (int m = 1; m <= 9; m++) {
            int[] marks = s.marks();
            marks[bidder] = m;
            int take = sum(pays(s, s.bids(), marks, s.bar, 0));
            if (take > most) {
                most = take;
                high = m;
            }
        }
        return high;
    }

    int without(int sale, int bidder) {
        Sale s = of(sale);
        return s == null || !s.bidder(bidder) ? NONE : sum(pays(s, s.bids(), s.marks(), s.bar, 1 << bidder));
    }

    static long guessed(Sale s, int bidder, int[] bids, int i, long chance) {
        if (i == s.many()) return chance * gain(s, bids, bidder);
        if (i == bidder || s.sorts.get(i).isEmpty()) return guessed(s, bidder, bids, i + 1, chance);
        long sum = 0;
        int kept = bids[i];
        for (int[] sort : s.sorts.get(i)) {
            bids[i] = sort[0];
            sum += guessed(s, bidder, bids, i + 1, chance * sort[1]);
        }
        bids[i] = kept;
        return sum;
    }

    long guess(int sale, int bidder, boolean gain) {
        Sale s = of(sale);
        if (s == null || !s.bidder(bidder)) return -4000000000000000000L;
        long most = Long.MIN_VALUE;
        int best = 0;
        for (int x = 0; x <= 99; x++) {
            int[] bids = s.bids();
            bids[bidder] = x;
            long g = guessed(s, bidder, bids, 0, 1);
            if (g > most) {
                most = g;
                best = x;
            }
        }
        return gain ? most : best;
    }

    int pair(int sale, int a, int b, int what) {
        Sale s = of(sale);
        if (s == null || !s.bidder(a) || !s.bidder(b) || a == b || what < 0 || what > 2) return -100000;
        int lo = Math.min(a, b);
        int hi = Math.max(a, b);
        int[] bids = s.bids();
        int[] best = new int[3];
        best[0] = Integer.MIN_VALUE;
        for (int x = 0; x <= 99; x++) {
            for (int y = 0; y <= 99; y++) {
                bids[lo] = x;
                bids[hi] = y;
                int g = gain(s, bids, lo) + gain(s, bids, hi);
                if (g > best[0]) best = new int[] {g, x, y};
            }
        }
        return best[what];
    }

    int tells(int sale, int bidder, int value, boolean board) {
        Sale s = of(sale);
        if (s == null || !s.bidder(bidder) || value < 0 || value > 99) return -100000;
        Sale t = s.copy();
        t.bidders.get(bidder)[0] = value;
        Rows best = bestRows(t);
        int j = find(best.row, bidder);
        if (board) return j;
        if (j == NONE) return 0;
        int others = 0;
        for (int k = 0; k < s.boards(); k++) {
            if (k != j && best.row[k] != NONE) others += s.worth(best.row[k], k);
        }
        int pays = new Rows(worths(s), all(s), 1 << bidder, null).most - others;
        return s.worth(bidder, j) - pays;
    }

    /** Prices behind so many ROUNDS at most, and how many there were. */
    static int[] climb(Sale s, int rounds) {
        int[] price = new int[s.boards() + 1];
        for (int r = 0; r < rounds; r++) {
            List<Integer> wants = new ArrayList<>();
            for (int i = 0; i < s.many(); i++) {
                int most = 0;
                for (int j = 0; j < s.boards(); j++) most = Math.max(most, s.worth(i, j) - price[j]);
                int bits = 0;
                for (int j = 0; j < s.boards(); j++) if (s.worth(i, j) - price[j] == most) bits |= 1 << j;
                if (most > 0) wants.add(bits);
            }
            int best = 0;
            for (int set = 1; set < 1 << s.boards(); set++) {
                int crowd = 0;
                for (int w : wants) if ((w | set) == set) crowd++;
                boolean fewer = best == 0 || Integer.bitCount(set) < Integer.bitCount(best);
                if (crowd > Integer.bitCount(set) && fewer) best = set;
            }
            if (best == 0) break;
            for (int j = 0; j < s.boards(); j++) if ((best >> j & 1) == 1) price[j]++;
            price[s.boards()]++;
        }
        return price;
    }

    int climb(int sale, int rounds, int board) {
        Sale s = of(sale);
        return s == null || rounds < 0 || rounds > 999 || !s.board(board) ? NONE : climb(s, rounds)[board];
    }

    int climbs(int sale) {
        Sale s = of(sale);
        if (s == null) return NONE;
        int rounds = climb(s, 2000)[s.boards()];
        return rounds > 999 ? NONE : rounds;
    }

    int count() { return now.sales.size(); }

    boolean image(int k) {
        if (k < 0 || k > 2) return false;
        images[k] = now.copy();
        return true;
    }

    boolean again(int k) {
        if (k < 0 || k > 2 || images[k] == null) return false;
        now = images[k].copy();
        return true;
    }
}
