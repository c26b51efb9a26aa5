import java.lang.reflect.Constructor;
import java.lang.reflect.Field;
import java.lang.reflect.Method;
import java.lang.reflect.Modifier;
import java.nio.charset.StandardCharsets;
import java.nio.file.Files;
import java.nio.file.Path;
import java.util.ArrayList;
import java.util.Arrays;
import java.util.HashSet;
import java.util.List;
import java.util.Set;
import java.util.TreeSet;
import java.util.regex.Matcher;
import java.util.regex.Pattern;

/** The class has the document's face and no other, and keeps to what of LANGUAGE.md can be seen in its text. */
public final class FaceTest {
    private static int wrong = 0;

    private static void check(boolean good, String what) {
        if (!good) {
            wrong++;
            System.out.println("wrong: " + what);
        }
    }

    public static void main(String[] args) throws Exception {
        String document = Files.readString(Path.of("../shared/DOC.md"), StandardCharsets.UTF_8);
        String source = Files.readString(Path.of("src/main/java/RoadBoards.java"), StandardCharsets.UTF_8);
        face(document);
        nested();
        text(source.replaceAll("(?s)/\\*.*?\\*/", "").replaceAll("//[^\n]*", ""));
        System.out.println(wrong == 0 ? "the face is the document's" : wrong + " wrong");
        if (wrong > 0) System.exit(1);
    }

    private static void face(String document) {
        Set<String> want = new TreeSet<>();
        Matcher m = Pattern.compile("    public (int|long|boolean) (\\w+)\\(([^)]*)\\);").matcher(document);
        while (m.find()) want.add(m.group(1) + " " + m.group(2) + "(" + m.group(3).replaceAll(" \\w+(,|$)", "$1") + ")");
        Set<String> got = new TreeSet<>();
        Set<String> hidden = new HashSet<>();
        for (Method method : RoadBoards.class.getDeclaredMethods()) {
            if (Modifier.isPrivate(method.getModifiers())) {
                hidden.add(method.getName());
                continue;
            }
            List<String> types = new ArrayList<>();
            for (Class<?> type : method.getParameterTypes()) types.add(type.getName());
            got.add(method.getReturnType() + " " + method.getName() + "(" + String.join(", ", types) + ")");
            check(Modifier.isPublic(method.getModifiers()), method.getName() + " is public");
        }
        check(want.size() == 41, "the document's face is read: " + want.size());
        check(got.equals(want), "the face is " + got + ", due is " + want);
        for (String line : got) check(!hidden.contains(line.replaceAll(".* (\\w+)\\(.*", "$1")), line + " is a private name too");
        Constructor<?>[] made = RoadBoards.class.getDeclaredConstructors();
        check(made.length == 1 && made[0].getParameterCount() == 0 && Modifier.isPublic(made[0].getModifiers()), "constructor");
        check(RoadBoards.NONE == -1, "NONE");
        check(Modifier.isFinal(RoadBoards.class.getModifiers()), "final");
        for (Field f : RoadBoards.class.getDeclaredFields()) {
            boolean face = f.getName().equals("NONE");
            check(face == Modifier.isPublic(f.getModifiers()) && face != Modifier.isPrivate(f.getModifiers()), f.getName());
        }
    }

    private static void nested() {
        Set<String> face = new HashSet<>();
        for (Method m : RoadBoards.class.getMethods()) face.add(m.getName());
        check(RoadBoards.class.getDeclaredClasses().length <= 11, "at most twelve classes");
        for (Class<?> c : RoadBoards.class.getDeclaredClasses()) {
            check(Modifier.isStatic(c.getModifiers()), c + " is static");
            int fields = 0;
            for (Field f : c.getDeclaredFields()) {
                if (!Modifier.isStatic(f.getModifiers())) fields++;
                else check(Modifier.isFinal(f.getModifiers()), f + " is final");
            }
            check(fields <= 20, c + " has " + fields + " fields");
            for (Method m : c.getDeclaredMethods()) {
                check(!face.contains(m.getName()), m + " bears the name of a public one");
                check(m.getParameterCount() <= 7, m + " takes at most seven");
            }
        }
    }

    private static void text(String code) {
        for (String word : Arrays.asList("throw", "try", "catch", "synchronized", "assert", "import", "package", "double",
            "float", "->", "::", "Exact", "hashCode", "instanceof", "System\\.out", "Thread", "Random", "nanoTime")) {
            String sought = word.matches("\\w+") ? "\\b" + word + "\\b" : word;
            check(!Pattern.compile(sought).matcher(code).find(), word + " is in the text");
        }
        check(!Pattern.compile("\"\\s*\\+|\\+\\s*\"").matcher(code).find(), "texts joined by +");
        for (char c : code.toCharArray()) check(c < 128, "a sign above 127");
        int lines = 0;
        for (String line : code.split("\n")) {
            lines = line.matches("    ( {4})?\\S.*\\{") ? 0 : lines + 1;
            check(lines <= 62 || line.matches("[}\\s]*"), "a method of more than sixty lines: " + line);
        }
    }
}
