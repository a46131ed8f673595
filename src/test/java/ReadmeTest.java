import java.io.IOException;
import java.lang.reflect.Method;
import java.nio.charset.StandardCharsets;
import java.nio.file.Files;
import java.nio.file.Path;
import java.util.HashMap;
import java.util.Map;
import java.util.Set;
import java.util.TreeSet;
import java.util.regex.Matcher;
import java.util.regex.Pattern;

/** The example of README.md: each call in it answers what stands behind it; run from the project's root. */
public final class ReadmeTest {
    private static final Due due = new Due("ReadmeTest");
    private static final String START = "BallCourt court = new BallCourt();";
    private static final Pattern CALL = Pattern.compile("(?:int (\\w+) = )?court\\.(\\w+)\\((.*?)\\); +// (-?\\w+): \\S.*");

    private final BallCourt court = new BallCourt();
    private final Map<String, Integer> numbers = new HashMap<>();
    private int calls;

    public static void main(String[] args) throws IOException, ReflectiveOperationException {
        String text = Files.readString(Path.of("README.md"), StandardCharsets.UTF_8);
        new ReadmeTest().example(text);
        callsOfTheFace(text);
        due.end();
    }

    private void example(String text) throws ReflectiveOperationException {
        Matcher found = Pattern.compile("(?s)```java\n(.*?)```").matcher(text);
        due.isTrue("README.md has an example", found.find());
        for (String line : found.group(1).split("\n")) {
            Matcher call = CALL.matcher(line);
            if (call.matches()) {
                answers(call);
            } else {
                due.isTrue("can be read: " + line, line.isEmpty() || line.startsWith("// ") || line.equals(START));
            }
        }
        due.isTrue("the example has calls", calls > 20);
    }

    private void answers(Matcher call) throws ReflectiveOperationException {
        String[] told = call.group(3).isEmpty() ? new String[0] : call.group(3).split(", ");
        Object[] arguments = new Object[told.length];
        for (int i = 0; i < told.length; i++) {
            arguments[i] = told[i].equals("true") || told[i].equals("false")
                ? (Object) Boolean.valueOf(told[i]) : (Object) number(told[i]);
        }
        int answer = (Integer) method(call.group(2)).invoke(court, arguments);
        if (call.group(1) != null) {
            numbers.put(call.group(1), answer);
        }
        calls++;
        due.is(call.group(2) + "(" + call.group(3) + ")", answer, number(call.group(4)));
    }

    private Integer number(String told) throws ReflectiveOperationException {
        if (numbers.containsKey(told)) {
            return numbers.get(told);
        }
        return told.matches("[A-Z]+") ? BallCourt.class.getField(told).getInt(null) : Integer.parseInt(told);
    }

    private static Method method(String name) throws NoSuchMethodException {
        for (Method method : BallCourt.class.getMethods()) {
            if (method.getName().equals(name)) {
                return method;
            }
        }
        throw new NoSuchMethodException(name);
    }

    /** The list behind the example bears each call of the face once, and no other. */
    private static void callsOfTheFace(String text) throws ReflectiveOperationException {
        Set<String> listed = new TreeSet<>(), face = new TreeSet<>();
        Matcher list = Pattern.compile("(?s)\n- The book:.*?\n\n").matcher(text);
        due.isTrue("README.md lists the calls", list.find());
        Matcher name = Pattern.compile("`(\\w+)`").matcher(list.group());
        while (name.find()) {
            due.isTrue("listed once: " + name.group(1), listed.add(name.group(1)));
        }
        for (Method method : BallCourt.class.getMethods()) {
            if (method.getDeclaringClass() == BallCourt.class) {
                face.add(method.getName());
            }
        }
        due.isTrue("the calls listed are those of the face", listed.equals(face));
    }
}
