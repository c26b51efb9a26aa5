import java.lang.reflect.Method;
import java.nio.charset.StandardCharsets;
import java.nio.file.Files;
import java.nio.file.Path;
import java.util.ArrayList;
import java.util.List;
import java.util.regex.Matcher;
import java.util.regex.Pattern;

/** README.md: its example answers as it says, and its table has every call of the document's face, in that order. */
public final class ReadmeTest {
    private static int wrong = 0;

    private static void check(boolean good, String what) {
        if (!good) {
            wrong++;
            System.out.println("wrong: " + what);
        }
    }

    public static void main(String[] args) throws Exception {
        String readme = Files.readString(Path.of("README.md"), StandardCharsets.UTF_8);
        String document = Files.readString(Path.of("../shared/DOC.md"), StandardCharsets.UTF_8);
        int calls = example(readme);
        check(calls == 9, "the example has " + calls + " calls");
        List<String> face = new ArrayList<>();
        Matcher m = Pattern.compile("    public (?:int|long|boolean) (\\w+\\([^)]*\\));").matcher(document);
        while (m.find()) face.add(m.group(1).replaceAll("(int|boolean) ", ""));
        List<String> table = new ArrayList<>();
        m = Pattern.compile("(?m)^\\| `(\\w+\\([^)]*\\))` \\|").matcher(readme);
        while (m.find()) table.add(m.group(1));
        check(face.size() == 41, "the document's face is read: " + face.size());
        check(table.equals(face), "the table has " + table + ", due is " + face);
        for (String test : tests()) check(readme.contains("`" + test + "`"), test + " is not told of");
        System.out.println(wrong == 0 ? "the README is as the class" : wrong + " wrong");
        if (wrong > 0) System.exit(1);
    }

    private static List<String> tests() throws Exception {
        List<String> names = new ArrayList<>();
        try (var files = Files.newDirectoryStream(Path.of("src/test/java"), "*Test.java")) {
            for (Path file : files) names.add(file.getFileName().toString().replace(".java", ""));
        }
        return names;
    }

    /** Calls each 'x.name(..); // answer'. */
    private static int example(String readme) throws Exception {
        RoadBoards x = new RoadBoards();
        int calls = 0;
        Matcher m = Pattern.compile("(?m)^x\\.(\\w+)\\(([^)]*)\\); // (-?\\d+)$").matcher(readme);
        while (m.find()) {
            String[] words = m.group(2).split(", ");
            Method method = named(m.group(1));
            Object[] values = new Object[words.length];
            for (int k = 0; k < words.length; k++) values[k] = valueOf(words[k]);
            Object got = method.invoke(x, values);
            check(got.toString().equals(m.group(3)), m.group() + " answered " + got);
            calls++;
        }
        return calls;
    }

    private static Method named(String name) {
        for (Method method : RoadBoards.class.getMethods()) {
            if (method.getName().equals(name)) return method;
        }
        throw new IllegalArgumentException(name);
    }

    private static Object valueOf(String word) {
        if (word.equals("true") || word.equals("false")) return word.equals("true");
        return word.equals("RoadBoards.NONE") ? (Integer) RoadBoards.NONE : Integer.decode(word);
    }
}
