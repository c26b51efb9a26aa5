import java.lang.management.ManagementFactory;
import java.util.function.IntConsumer;

/** The dearest calls make no object, 512 of them are bearable, and a new object is small. */
public final class RoomTest {
    private static final boolean TELL = Boolean.getBoolean("tell");
    private static int wrong = 0;

    private static final com.sun.management.ThreadMXBean THREADS =
        (com.sun.management.ThreadMXBean) ManagementFactory.getThreadMXBean();

    private static long made() { return THREADS.getThreadAllocatedBytes(Thread.currentThread().getId()); }

    private static void check(String name, IntConsumer calls) {
        calls.accept(0);
        long before = made();
        long start = System.nanoTime();
        for (int n = 0; n < 15; n++) calls.accept(n);
        long bytes = made() - before;
        long millis = (System.nanoTime() - start) / 1000000;
        if (TELL) System.out.println(name + ": " + millis + " ms, " + bytes + " bytes");
        if (bytes > 2000 || millis > 20000) {
            wrong++;
            System.out.println(name + ": 15 calls made " + bytes + " bytes and took " + millis + " ms");
        }
    }

    public static void main(String[] args) {
        // The first one loads the classes too.
        new RoadBoards();
        long before = made();
        RoadBoards x = new RoadBoards();
        long bytes = made() - before;
        if (bytes > 100000) {
            wrong++;
            System.out.println("a new object takes " + bytes + " bytes");
        }
        StringBuilder text = new StringBuilder("board 99;board 80;board 60;board 40;board 20;board 9;");
        for (int i = 0; i < 7; i++) text.append("bidder ").append(99 - 3 * i).append(" ").append(i + 3).append(';');
        for (int i = 0; i < 7; i++) {
            for (int k = 0; k < 3; k++) text.append("sort ").append(i).append(' ').append(7 * i + 17 * k).append(" 9;");
        }
        text.append("way harm;bar 1;mark 2 7;mark 4 3;friend 2 3 more 999;");
        Texts.put(x, text.toString());
        if (x.sale(-1) != 0) {
            wrong++;
            System.out.println("fault " + x.fault(0) + " at " + x.fault(1));
        }
        String few = "board 9;board 5;bidder 9 5;bidder 8 5;bidder 7 5;bidder 6 5;way own;";
        Texts.put(x, few);
        x.sale(-1);
        check("feed, sale", n -> {
            x.feed(n, n, n, n, n);
            x.sale(0);
        });
        check("high", n -> x.high(0));
        check("taken", n -> x.taken(0, n));
        check("guess", n -> x.guess(0, n % 7, true));
        check("pair", n -> x.pair(0, n % 7, (n + 1) % 7, 0));
        check("replies", n -> x.replies(n % 2, 0));
        check("restless", n -> x.restless(0));
        check("rests", n -> x.rests(1, 5));
        check("rest", n -> x.rest(1, 5, 1000, 0));
        check("best", n -> x.best(0, 0));
        check("even", n -> x.even(0, n % 6, n % 2 == 0));
        check("truly", n -> x.truly(0, n % 7));
        check("tells", n -> x.tells(0, n % 7, n, false));
        check("judged", n -> x.judged(0));
        check("beside", n -> x.beside(0, 0));
        check("day", n -> x.day(0, 60, 0));
        check("spent", n -> x.spent(0, 0));
        check("climbs", n -> x.climbs(0));
        check("pay", n -> x.pay(0, n % 7, true));
        check("rather", n -> x.rather(0, true));
        check("come", n -> x.come(0, n, n));
        check("breaks", n -> x.breaks(0));
        check("mark", n -> x.mark(0, n % 7));
        check("image, again", n -> {
            x.image(n % 3);
            x.again(n % 3);
        });
        System.out.println(wrong == 0 ? "room enough" : wrong + " calls are too dear");
        if (wrong > 0) System.exit(1);
    }
}
