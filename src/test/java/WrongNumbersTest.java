import java.lang.reflect.Method;
import java.lang.reflect.Modifier;
import java.util.Arrays;
import java.util.Random;

/** Every call with numbers from all over, in every state: it never throws, and answers as PlainBoards does. */
public final class WrongNumbersTest {
    private static final int[] NUMBERS = {Integer.MIN_VALUE, Integer.MIN_VALUE + 1, -100, -2, -1, 0, 0, 0, 1, 1, 2, 2, 3, 4, 5,
        6, 7, 8, 9, 10, 11, 15, 16, 17, 20, 21, 25, 26, 27, 30, 40, 56, 57, 60, 61, 66, 67, 69, 70, 99, 100, 999, 1000, 1295,
        1296, 9999, 10000, Integer.MAX_VALUE - 1, Integer.MAX_VALUE};
    private static final String[] TEXTS = {
        "board 9;bidder 8 7;",
        "board 9;board 7;board 2;bidder 8 7;bidder 8 7;bidder 3 3;mark 2 4;sort 0 5 1;sort 0 3 2;foe 0 1;friend 1 2 more 9;",
        "board 9;board 9;board 7;board 5;board 5;board 0;bidder 8 7;bidder 8 7;bidder 3 3;bidder 0 1;bidder 9 8;bidder 6 6;"
            + "bidder 6 4;mark 2 4;sort 0 5 1;sort 0 3 2;foe 0 1;friend 1 2 more 9;way harm;bar 2;purse 1 300;extra 3 2 less 9;"};

    private static int wrong = 0;
    private static int calls = 0;

    public static void main(String[] args) throws Exception {
        for (int sales = 0; sales <= TEXTS.length; sales++) {
            Random r = new Random(sales);
            for (Method m : RoadBoards.class.getDeclaredMethods()) {
                if (Modifier.isPublic(m.getModifiers())) sweep(r, m, sales);
            }
        }
        System.out.println(calls + " calls, " + wrong + " wrong");
        if (wrong > 0) System.exit(1);
    }

    private static void sweep(Random r, Method m, int sales) throws Exception {
        Method plain = PlainBoards.class.getDeclaredMethod(m.getName(), m.getParameterTypes());
        RoadBoards x = new RoadBoards();
        PlainBoards y = new PlainBoards();
        for (int k = 0; k < sales; k++) {
            for (int[] f : Texts.feeds(TEXTS[k])) {
                x.feed(f[0], f[1], f[2], f[3], f[4]);
                y.feed(f[0], f[1], f[2], f[3], f[4]);
            }
            x.end(TEXTS[k].length());
            y.end(TEXTS[k].length());
            x.sale(-1);
            y.sale(-1);
        }
        for (int n = 0; n < 300; n++) {
            Object[] numbers = new Object[m.getParameterCount()];
            for (int k = 0; k < numbers.length; k++) {
                boolean truth = m.getParameterTypes()[k] == boolean.class;
                boolean real = k == 0 && sales > 0 && r.nextInt(3) > 0;
                if (truth) numbers[k] = r.nextBoolean();
                else numbers[k] = real ? r.nextInt(sales) : NUMBERS[r.nextInt(NUMBERS.length)];
            }
            Object got;
            try {
                got = m.invoke(x, numbers);
            } catch (java.lang.reflect.InvocationTargetException e) {
                got = e.getCause();
            }
            calls++;
            Object want = plain.invoke(y, numbers);
            if (!want.equals(got)) {
                wrong++;
                System.out.println(m.getName() + Arrays.toString(numbers) + " with " + sales + " SALES answered " + got + ", due is " + want);
            }
        }
    }
}
