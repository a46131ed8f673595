import java.io.IOException;
import java.lang.reflect.Method;
import java.lang.reflect.Modifier;
import java.nio.charset.StandardCharsets;
import java.nio.file.Files;
import java.nio.file.Path;
import java.util.ArrayList;
import java.util.List;
import java.util.Set;
import java.util.TreeSet;
import java.util.regex.Matcher;
import java.util.regex.Pattern;

/** What of ../shared/LANGUAGE.md can be read off the source and the classes; run from the project's root. */
public final class LanguageTest {
    private static final Due due = new Due("LanguageTest");
    private static final Path SOURCE = Path.of("src/main/java/BallCourt.java");
    private static final String[] NOT_THERE = {"->", "::", "\\bimport\\b", "\\bpackage\\b", "\\bsynchronized\\b",
        "\\bassert\\b", "\\bfinally\\b", "\\bthrows?\\b", "\\bcatch\\b", "\\btry\\b", "\\bvar\\b", "\\bMath\\.\\w+Exact\\b",
        "\\b(Random|Thread|System|Runtime|Object)\\b", "\\b(equals|hashCode|toString|getMessage)\\b", "\\bstatic\\s*\\{",
        "\\bdouble\\b", "\\bfloat\\b", "\\bprotected\\b", "@"};

    public static void main(String[] args) throws IOException {
        String text = Files.readString(SOURCE, StandardCharsets.UTF_8);
        signs(text);
        String code = text.replaceAll("(?s)/\\*.*?\\*/", "").replaceAll("//[^\n]*", "");
        notThere(code);
        madeInConstructorsAlone(code);
        shortMethods(text);
        classes();
        due.end();
    }

    private static void signs(String text) {
        for (int i = 0; i < text.length(); i++) {
            if (text.charAt(i) > 126) {
                due.isTrue("the sign at " + i + " is plain", false);
            }
        }
    }

    private static void notThere(String code) {
        for (String pattern : NOT_THERE) {
            Matcher found = Pattern.compile(pattern).matcher(code);
            due.isTrue("the source is without " + pattern, !found.find());
        }
    }

    /** All that is made is a field's first value: so no call makes anything. */
    private static void madeInConstructorsAlone(String code) {
        for (String line : code.split("\n")) {
            if (line.contains("new ")) {
                due.isTrue("made as a field: " + line.trim(), line.matches("\\s+private final \\S+ \\w+ = new [^;]+;"));
            }
        }
    }

    private static void shortMethods(String text) {
        String[] lines = text.split("\n");
        for (int from = 0; from < lines.length; from++) {
            Matcher head = Pattern.compile("^( {4}| {8})(?=\\S)[^=]*\\) \\{$").matcher(lines[from]);
            if (!head.find() || lines[from].trim().matches("(for|if|while|switch|\\}).*")) {
                continue;
            }
            int to = from;
            while (!lines[to].equals(head.group(1) + "}")) {
                to++;
            }
            due.isTrue("at most 60 lines: " + lines[from].trim(), to - from < 60);
        }
    }

    private static void classes() {
        List<Class<?>> all = new ArrayList<>(List.of(BallCourt.class.getDeclaredClasses()));
        all.add(BallCourt.class);
        due.isTrue("at most 12 classes", all.size() <= 12);
        Set<String> face = new TreeSet<>();
        for (Method method : BallCourt.class.getDeclaredMethods()) {
            if (Modifier.isPublic(method.getModifiers())) {
                face.add(method.getName());
            }
        }
        for (Class<?> one : all) {
            long fields = List.of(one.getDeclaredFields()).stream()
                .filter(field -> !Modifier.isStatic(field.getModifiers())).count();
            due.isTrue("at most 20 fields in " + one.getName(), fields <= 20);
            for (Method method : one.getDeclaredMethods()) {
                due.isTrue("at most 7 parameters: " + method, method.getParameterCount() <= 7);
                due.isTrue("no name of the face inside: " + method,
                    one == BallCourt.class || !face.contains(method.getName()));
            }
        }
    }
}
