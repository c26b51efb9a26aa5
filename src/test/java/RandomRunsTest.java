import java.util.Random;

/** Runs of calls, made by chance from fixed seeds, on RoadBoards and on PlainBoards: the answers are alike. */
public final class RandomRunsTest {
    /** No step makes more than 11 calls: an object is used for at most 512. */
    private static final int NEARLY_ALL = 500;

    private static int wrong = 0;
    private static long calls = 0;

    private int used = 0;

    private RoadBoards x;
    private PlainBoards y;
    private final Random r;
    private final long seed;
    private final StringBuilder told = new StringBuilder();

    private RandomRunsTest(long seed) {
        this.seed = seed;
        r = new Random(seed);
    }

    public static void main(String[] args) {
        int runs = args.length > 0 ? Integer.parseInt(args[0]) : 600;
        int from = args.length > 1 ? Integer.parseInt(args[1]) : 0;
        for (int n = from; n < from + runs; n++) new RandomRunsTest(n).run();
        System.out.println(calls + " calls, " + wrong + " wrong");
        if (wrong > 0) System.exit(1);
    }

    private void due(String call, long got, long want) {
        calls++;
        used++;
        if (got != want && wrong++ < 30) {
            System.out.println("seed " + seed + ": " + call + " answered " + got + ", due is " + want + told);
        }
    }

    private static long one(boolean b) { return b ? 1 : 0; }

    private void run() {
        x = new RoadBoards();
        y = new PlainBoards();
        for (int n = 0; n < 4 && used < 300; n++) {
            texts(n == 0 ? 3 : 1);
            for (int k = 0; k < 50 && used < NEARLY_ALL; k++) call(r.nextInt(34));
            for (int k = 0; k < 7 && used < NEARLY_ALL; k++) dear(r.nextInt(5));
        }
    }

    private void texts(int many) {
        for (int tries = 0; tries < many; tries++) {
            String text = Texts.make(r);
            int spoilt = r.nextInt(6);
            if (spoilt > 3) text = Texts.wild(r);
            if (spoilt > 2 && spoilt < 5) text = Texts.spoil(r, text);
            for (int[] f : Texts.feeds(text)) {
                due("feed", x.feed(f[0], f[1], f[2], f[3], f[4]), y.feed(f[0], f[1], f[2], f[3], f[4]));
            }
            due("end", x.end(text.length()), y.end(text.length()));
            int at = r.nextInt(3) == 0 ? r.nextInt(5) - 1 : -1;
            told.append("\n").append(at).append(" <").append(text).append(">");
            due("sale " + text, x.sale(at), y.sale(at));
            due("fault", x.fault(0), y.fault(0));
            due("place " + text, x.fault(1), y.fault(1));
            due("tape taken", x.end(1), y.end(1));
        }
        for (int n = 0; n < 60; n++) {
            int s = n < 50 ? r.nextInt(Math.max(1, y.count())) : r.nextInt(5) - 1;
            int what = n < 4 ? n : r.nextInt(74) - 2;
            due("about " + s + " " + what, x.about(s, what), y.about(s, what));
        }
    }

    private int sale() { return r.nextInt(12) == 0 ? r.nextInt(6) - 2 : r.nextInt(Math.max(1, y.count())); }

    private int few(int n) { return r.nextInt(15) == 0 ? r.nextInt(12) - 3 : r.nextInt(n); }

    private void call(int what) {
        int s = sale();
        int i = few(7);
        int j = few(6);
        boolean b = r.nextBoolean();
        int n = r.nextInt(20) == 0 ? r.nextInt(300) - 100 : r.nextInt(r.nextBoolean() ? 6 : 100);
        int w = r.nextInt(3) == 0 ? r.nextInt(3) : 10 * (1 + r.nextInt(2)) + few(7);
        String a = " " + s + " " + i + " " + j + " " + b + " " + n + " " + w;
        switch (what) {
            case 0 -> due("worth" + a, x.worth(s, i, j), y.worth(s, i, j));
            case 1 -> due("bid" + a, one(x.bid(s, i, n)), one(y.bid(s, i, n)));
            case 2 -> due("rule" + a, one(x.rule(s, i - 1, n)), one(y.rule(s, i - 1, n)));
            case 3 -> due("stands" + a, x.stands(s, j), y.stands(s, j));
            case 4, 5 -> due("pay" + a, x.pay(s, i, b), y.pay(s, i, b));
            case 6 -> due("take" + a, x.take(s), y.take(s));
            case 7 -> due("rather" + a, x.rather(s, b), y.rather(s, b));
            case 8 -> due("reply" + a, x.reply(s, i), y.reply(s, i));
            case 9 -> due("restless" + a, x.restless(s), y.restless(s));
            case 10 -> due("best" + a, x.best(s, w), y.best(s, w));
            case 11 -> due("even" + a, x.even(s, j, b), y.even(s, j, b));
            case 12 -> due("truly" + a, x.truly(s, i), y.truly(s, i));
            case 13 -> {
                int p = r.nextInt(3) == 0 ? n : y.even(s, j, b);
                due("price" + a, one(x.price(s, j, p)), one(y.price(s, j, p)));
            }
            case 14 -> {
                if (b) for (int k = 0; k < 6; k++) due("price" + a, one(x.price(s, k, y.even(s, k, n > 5))), one(y.price(s, k, y.even(s, k, n > 5))));
                due("judged" + a, x.judged(s), y.judged(s));
            }
            case 15 -> due("parts" + a, x.parts(s), y.parts(s));
            case 16 -> due("taken" + a, x.taken(s, n), y.taken(s, n));
            case 17, 18 -> {
                int d = r.nextInt(20) == 0 ? r.nextInt(80) - 10 : 1 + r.nextInt(60);
                due("day" + a + " " + d, x.day(s, d, w), y.day(s, d, w));
            }
            case 19 -> due("spent" + a, x.spent(s, i), y.spent(s, i));
            case 20 -> due("beside" + a, x.beside(s, w), y.beside(s, w));
            case 21 -> {
                int v = r.nextInt(100);
                due("come" + a + " " + v, x.come(s, v, n), y.come(s, v, n));
            }
            case 22 -> due("spared" + a, x.spared(s, i), y.spared(s, i));
            case 23 -> due("breaks" + a, x.breaks(s), y.breaks(s));
            case 24 -> due("mark" + a, x.mark(s, i), y.mark(s, i));
            case 25 -> due("without" + a, x.without(s, i), y.without(s, i));
            case 26, 27 -> due("tells" + a, x.tells(s, i, n, b), y.tells(s, i, n, b));
            case 28 -> due("climb" + a, x.climb(s, 12 * n, j), y.climb(s, 12 * n, j));
            case 29 -> due("climbs" + a, x.climbs(s), y.climbs(s));
            case 30 -> due("count", x.count(), y.count());
            case 31 -> due("image", one(x.image(j - 1)), one(y.image(j - 1)));
            case 32 -> {
                if (r.nextInt(3) == 0) due("again", one(x.again(j - 1)), one(y.again(j - 1)));
            }
            default -> {
                if (r.nextInt(3) == 0) due("end", x.end(n - 2), y.end(n - 2));
                else due("feed", x.feed(n, s, i, j, w), y.feed(n, s, i, j, w));
                due("end", x.end(0), y.end(0));
            }
        }
    }

    /** Calls that PlainBoards takes long for. */
    private void dear(int what) {
        int s = sale();
        int i = few(7);
        int k = few(7);
        String a = " " + s + " " + i + " " + k;
        PlainBoards.Sale sold = y.of(s);
        boolean heavy = sold != null && sold.sorts.stream().mapToInt(l -> Math.max(1, l.size())).reduce(1, (p, q) -> p * q) > 250;
        if (heavy && r.nextInt(8) > 0) return;
        switch (what) {
            case 0 -> {
                due("high" + a, x.high(s), y.high(s));
            }
            case 1 -> {
                due("guess" + a, x.guess(s, i, false), y.guess(s, i, false));
                due("guess gain" + a, x.guess(s, i, true), y.guess(s, i, true));
            }
            case 2 -> {
                if (r.nextInt(4) == 0) for (int w = -1; w < 4; w++) due("pair" + a + w, x.pair(s, i, k, w), y.pair(s, i, k, w));
            }
            case 3 -> {
                for (int w : new int[] {-1, 0, 1, 2, 9, 10, 11, 12, 16, 17, 18}) due("replies" + a + w, x.replies(s, w), y.replies(s, w));
            }
            default -> {
                int top = r.nextInt(8) - 1;
                int rests = y.rests(s, top);
                due("rests" + a + top, x.rests(s, top), rests);
                int n = r.nextInt(Math.max(rests, 1)) + r.nextInt(2);
                due("rest" + a + top, x.rest(s, top, n, i % 4), y.rest(s, top, n, i % 4));
            }
        }
    }
}
