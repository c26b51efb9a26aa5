import java.nio.charset.StandardCharsets;
import java.util.ArrayList;
import java.util.List;
import java.util.Random;

/** Texts of SALES, made by chance from a seed, and how they come on a tape. */
final class Texts {
    private Texts() { }

    /** Five numbers a row, for feed. */
    static int[][] feeds(String text) {
        byte[] bytes = text.getBytes(StandardCharsets.ISO_8859_1);
        int[][] feeds = new int[(bytes.length + 19) / 20][5];
        for (int k = 0; k < bytes.length; k++) {
            feeds[k / 20][k % 20 / 4] |= (bytes[k] & 255) << 24 - 8 * (k % 4);
        }
        return feeds;
    }

    /** Puts a text on the tape of a new or empty one. */
    static void put(RoadBoards x, String text) {
        for (int[] f : feeds(text)) x.feed(f[0], f[1], f[2], f[3], f[4]);
        x.end(text.length());
    }

    private static String sign(Random r) { return r.nextBoolean() ? " more " : " less "; }

    static String make(Random r) {
        int boards = 1 + r.nextInt(6);
        int bidders = 1 + r.nextInt(7);
        int top = new int[] {2, 5, 12, 99}[r.nextInt(4)];
        int passTop = new int[] {3, 10, 99}[r.nextInt(3)];
        StringBuilder text = new StringBuilder();
        int pass = passTop;
        for (int j = 0; j < boards; j++) {
            pass = r.nextInt(3) == 0 ? pass : r.nextInt(pass + 1);
            text.append("board ").append(pass).append(";");
        }
        for (int i = 0; i < bidders; i++) {
            text.append("bidder ").append(r.nextInt(top + 1)).append(' ').append(r.nextInt(top + 1)).append(';');
        }
        List<String> more = new ArrayList<>();
        int lines = r.nextInt(28);
        int[] sorts = new int[bidders];
        int kinds = r.nextInt(4) == 0 ? 1 + r.nextInt(8) : 8;
        for (int n = 0; n < lines; n++) {
            int i = r.nextInt(bidders);
            int k = r.nextInt(bidders);
            int much = r.nextInt(r.nextBoolean() ? 10 : 1000);
            switch (r.nextInt(kinds)) {
                case 0 -> {
                    if (sorts[i]++ < 3) more.add("sort " + i + " " + r.nextInt(top + 1) + " " + (1 + r.nextInt(9)));
                }
                case 1 -> more.add("mark " + i + " " + (1 + r.nextInt(9)));
                case 2 -> more.add("purse " + i + " " + r.nextInt(10000) / (1 + r.nextInt(50)));
                case 3 -> more.add("extra " + i + " " + r.nextInt(boards) + sign(r) + much);
                case 4 -> {
                    if (i != k) more.add("friend " + i + " " + k + sign(r) + much);
                }
                case 5 -> {
                    if (i != k) more.add("foe " + i + " " + k);
                }
                case 6 -> more.add("way " + new String[] {"own", "next", "harm"}[r.nextInt(3)]);
                default -> more.add("bar " + r.nextInt(r.nextBoolean() ? 3 : top + 1));
            }
        }
        for (String line : more) {
            if (text.length() + line.length() + 1 <= 500) text.append(line).append(";");
        }
        return text.toString();
    }

    /** LINES that the grammar allows, with numbers of which some can't be, and sometimes too many of them. */
    static String wild(Random r) {
        StringBuilder text = new StringBuilder();
        int seldom = 2 + r.nextInt(60);
        int kinds = 1 + r.nextInt(10);
        int shift = r.nextInt(10);
        for (int lines = r.nextInt(60); lines > 0; lines--) {
            int kind = (shift + r.nextInt(kinds)) % 10;
            String line = switch (kind) {
                case 0 -> "board " + odd(r, seldom, 0, 9 - Math.min(9, text.length() / 8), 100);
                case 1 -> "bidder " + odd(r, seldom, 0, 99, 100) + " " + odd(r, seldom, 0, 99, 100);
                case 2 -> "mark " + odd(r, seldom, 0, 2, 7) + " " + odd(r, seldom, 1, 9, 10);
                case 3 -> "purse " + odd(r, seldom, 0, 2, 7) + " " + r.nextInt(10000);
                case 4 -> "extra " + odd(r, seldom, 0, 2, 7) + " " + odd(r, seldom, 0, 2, 6) + sign(r) + odd(r, seldom, 0, 999, 1000);
                case 5 -> "sort " + odd(r, seldom, 0, 2, 7) + " " + odd(r, seldom, 0, 99, 100) + " " + odd(r, seldom, 1, 9, 10);
                case 6 -> "friend " + odd(r, seldom, 0, 1, 7) + " " + odd(r, seldom, 1, 2, 7) + sign(r) + odd(r, seldom, 0, 999, 1000);
                case 7 -> "foe " + odd(r, seldom, 0, 1, 7) + " " + odd(r, seldom, 1, 2, 7);
                case 8 -> "way " + new String[] {"own", "next", "harm"}[r.nextInt(3)];
                default -> "bar " + odd(r, seldom, 0, 99, 100);
            };
            if (text.length() + line.length() + 1 <= 500) text.append(line).append(r.nextInt(9) == 0 ? " ;\n" : ";");
        }
        String start = r.nextInt(3) == 0 ? "" : "board 9;bidder 5 5;bidder 6 6;bidder 7 7;";
        String whole = start + text;
        return whole.length() > 500 ? whole.substring(0, whole.lastIndexOf(';', 499) + 1) : whole;
    }

    private static int odd(Random r, int seldom, int least, int most, int wrong) {
        return r.nextInt(seldom) == 0 ? r.nextBoolean() ? wrong : r.nextInt(2 * wrong) : least + r.nextInt(most - least + 1);
    }

    /** The same text with something put in, taken out or changed. */
    static String spoil(Random r, String text) {
        StringBuilder spoilt = new StringBuilder(text);
        String signs = "0123456789;; \nabdeimorstA{\u00e9\0";
        for (int n = 1 + r.nextInt(3); n > 0; n--) {
            int at = r.nextInt(spoilt.length() + 1);
            char c = signs.charAt(r.nextInt(signs.length()));
            switch (r.nextInt(5)) {
                case 0 -> spoilt.insert(at, c);
                case 1 -> spoilt.insert(at, ' ');
                case 2 -> {
                    if (at < spoilt.length()) spoilt.deleteCharAt(at);
                }
                case 3 -> {
                    if (at < spoilt.length()) spoilt.setCharAt(at, c);
                }
                default -> {
                    for (int k = at; k < spoilt.length(); k++) {
                        if (Character.isDigit(spoilt.charAt(k))) {
                            spoilt.setCharAt(k, (char) ('0' + r.nextInt(10)));
                            if (r.nextInt(3) == 0) spoilt.insert(k, '1');
                            break;
                        }
                    }
                }
            }
            if (spoilt.length() == 0) break;
        }
        // Whole lines again, so that there come to be too many of something.
        while (r.nextInt(4) == 0) {
            int from = r.nextInt(spoilt.length() + 1);
            spoilt.insert(spoilt.lastIndexOf(";") + 1, spoilt.substring(from));
            if (spoilt.length() > 1000) break;
        }
        return spoilt.length() > 500 ? spoilt.substring(0, 500) : spoilt.toString();
    }
}
