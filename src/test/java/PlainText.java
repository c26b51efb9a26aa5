import java.util.ArrayList;
import java.util.List;
import java.util.Map;
import java.util.regex.Matcher;
import java.util.regex.Pattern;

/** A SALE's text read in three goes: fault 1, then faults 2 to 4 as a list, then 5. */
final class PlainText {
    /** What comes behind a LINE's word: n a number, s more or less, w a way. */
    private static final Map<String, String> LINES = Map.of("board", "n", "bidder", "nn", "mark", "nn",
        "purse", "nn", "extra", "nnsn", "sort", "nnn", "friend", "nnsn", "foe", "nn", "way", "w", "bar", "n");
    private static final Pattern TOKEN = Pattern.compile("[a-z]+|[0-9]+|;|[^ \n]", Pattern.DOTALL);

    int fault = 0;
    int place = -1;
    PlainBoards.Sale sale = new PlainBoards.Sale();

    private final List<String> words = new ArrayList<>();
    private final List<Integer> places = new ArrayList<>();
    private final List<int[]> faults = new ArrayList<>();

    PlainText(List<Byte> tape) {
        StringBuilder text = new StringBuilder();
        for (byte b : tape) text.append((char) (b & 255));
        Matcher m = TOKEN.matcher(text);
        while (m.find()) {
            words.add(m.group());
            places.add(m.start());
        }
        words.add("END");
        places.add(tape.size());
        int broken = firstBroken();
        if (broken >= 0) {
            fault = 1;
            place = places.get(broken);
            return;
        }
        readLines();
        for (int[] f : faults) {
            if (fault == 0 || f[1] < place || f[1] == place && f[0] < fault) {
                fault = f[0];
                place = f[1];
            }
        }
        if (fault == 0 && (sale.boards() == 0 || sale.many() == 0)) {
            fault = 5;
            place = tape.size();
        }
    }

    private int firstBroken() {
        int t = 0;
        while (!words.get(t).equals("END")) {
            String parts = LINES.get(words.get(t));
            if (parts == null) return t;
            t++;
            for (char c : (parts + ";").toCharArray()) {
                String w = words.get(t);
                boolean fits = switch (c) {
                    case 'n' -> w.matches("[0-9]{1,4}");
                    case 's' -> w.equals("more") || w.equals("less");
                    case 'w' -> w.equals("own") || w.equals("next") || w.equals("harm");
                    default -> w.equals(";");
                };
                if (!fits) return t;
                t++;
            }
        }
        return -1;
    }

    private int number(int t, int least, int most) {
        int n = Integer.parseInt(words.get(t));
        if (n < least || n > most) faults.add(new int[] {2, places.get(t)});
        return n;
    }

    private int amount(int t) {
        return number(t + 1, 0, 999) * (words.get(t).equals("less") ? -1 : 1);
    }

    private void tooMany(int t) { faults.add(new int[] {3, places.get(t)}); }

    private void readLines() {
        int[] sorts = new int[10000];
        int boards = 0;
        int bidders = 0;
        int line = 0;
        int ahead = -1;
        for (int t = 0; !words.get(t).equals("END"); t += LINES.get(words.get(t)).length() + 2) {
            if (++line > 40) tooMany(t);
            switch (words.get(t)) {
                case "board" -> {
                    if (++boards > 6) tooMany(t);
                    int pass = number(t + 1, 0, 99);
                    if (ahead >= 0 && ahead <= 99 && pass > ahead) faults.add(new int[] {4, places.get(t + 1)});
                    ahead = pass;
                    sale.pass.add(pass);
                }
                case "bidder" -> {
                    if (++bidders > 7) tooMany(t);
                    sale.bidders.add(new int[] {number(t + 1, 0, 99), number(t + 2, 0, 99), 1, 9999});
                    sale.sorts.add(new ArrayList<>());
                }
                case "mark", "purse" -> {
                    boolean mark = words.get(t).equals("mark");
                    int i = number(t + 1, 0, bidders - 1);
                    int n = mark ? number(t + 2, 1, 9) : number(t + 2, 0, 9999);
                    if (faults.isEmpty()) sale.bidders.get(i)[mark ? 2 : 3] = n;
                }
                case "extra" -> {
                    int i = number(t + 1, 0, bidders - 1);
                    int j = number(t + 2, 0, boards - 1);
                    int much = amount(t + 3);
                    if (faults.isEmpty()) sale.extra[i][j] = much;
                }
                case "sort" -> {
                    int i = number(t + 1, 0, bidders - 1);
                    if (++sorts[i] > 3) tooMany(t);
                    int[] sort = {number(t + 2, 0, 99), number(t + 3, 1, 9)};
                    if (faults.isEmpty()) sale.sorts.get(i).add(sort);
                }
                case "friend", "foe" -> {
                    int a = number(t + 1, 0, bidders - 1);
                    int b = number(t + 2, 0, bidders - 1);
                    if (a == b) faults.add(new int[] {2, places.get(t + 2)});
                    int much = words.get(t).equals("foe") ? 0 : amount(t + 3);
                    if (faults.isEmpty() && words.get(t).equals("foe")) sale.foe[a][b] = sale.foe[b][a] = true;
                    else if (faults.isEmpty()) sale.friend[a][b] = sale.friend[b][a] = much;
                }
                case "way" -> sale.way = List.of("own", "next", "harm").indexOf(words.get(t + 1));
                default -> sale.bar = number(t + 1, 0, 99);
            }
        }
    }
}
