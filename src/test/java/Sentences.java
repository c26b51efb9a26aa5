import java.io.IOException;
import java.nio.charset.StandardCharsets;
import java.nio.file.Files;
import java.nio.file.Path;

/** Answers, each held against a sentence of the document that names a boundary. */
final class Sentences {
    static final int LOW = Integer.MIN_VALUE;
    static final int HIGH = Integer.MAX_VALUE;

    private final String document;
    private String where = "";
    private String words = "";
    private int sentences;
    private int answers;
    private int answersOfThis;
    private int wrong;

    Sentences() throws IOException {
        Path path = Path.of("../shared/DOC.md");
        document = Files.isReadable(path) ? plain(Files.readString(path, StandardCharsets.UTF_8)) : null;
    }

    private static String plain(String text) { return text.replaceAll("\\s+", " "); }

    /** The answers that follow are due by these words of the document. */
    void says(String place, String sentence) {
        closeSentence();
        where = place;
        words = sentence;
        sentences++;
        if (document != null && !document.contains(plain(sentence))) tell("these words are not the document's");
    }

    private void closeSentence() {
        if (sentences > 0 && answersOfThis == 0) tell("no answer is held against it");
        answersOfThis = 0;
    }

    private void tell(String fault) {
        wrong++;
        System.out.println(where + ", '" + words + "': " + fault);
    }

    void due(String call, long got, long want) {
        answers++;
        answersOfThis++;
        if (got != want) tell(call + " answered " + got + ", due is " + want);
    }

    void due(String call, boolean got, boolean want) { due(call, got ? 1 : 0, want ? 1 : 0); }

    /** A new one with these SALES. */
    RoadBoards with(String... texts) {
        RoadBoards x = new RoadBoards();
        for (String text : texts) {
            Texts.put(x, text);
            int number = x.sale(RoadBoards.NONE);
            if (number < 0) tell("<" + text + "> has the fault " + x.fault(0) + " at " + x.fault(1));
        }
        return x;
    }

    /** Who stands on the BOARDS of SALE 0, from 0 on. */
    void dueStands(String when, RoadBoards x, int... who) {
        for (int j = 0; j < who.length; j++) due(when + ": stands(0, " + j + ")", x.stands(0, j), who[j]);
    }

    void finish() {
        closeSentence();
        System.out.println(sentences + " sentences, " + answers + " answers, " + wrong + " wrong");
        if (wrong > 0) System.exit(1);
    }
}
