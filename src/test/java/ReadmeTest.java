import java.io.IOException;
import java.lang.reflect.InvocationTargetException;
import java.lang.reflect.Method;
import java.nio.file.Files;
import java.nio.file.Path;
import java.util.Arrays;
import java.util.Set;
import java.util.TreeSet;
import java.util.regex.Matcher;
import java.util.regex.Pattern;

/** Does the calls of README.md one behind the other: each must answer what stands behind it, up to a ':' or ','. */
final class ReadmeTest {
    private static final Pattern CALL = Pattern.compile("gate\\.(\\w+)\\((.*?)\\);\\s*// (.*)");

    public static void main(String[] args) throws IOException, IllegalAccessException {
        Fencegate gate = null;
        Set<String> called = new TreeSet<>();
        for (String line : Files.readAllLines(Path.of("README.md"))) {
            Matcher matcher = CALL.matcher(line);
            if (line.equals("Fencegate gate = new Fencegate();")) {
                gate = new Fencegate();
            } else if (matcher.matches()) {
                called.add(matcher.group(1));
                Check.same(line, answerOf(gate, matcher.group(1), matcher.group(2)), matcher.group(3).split("[:,]")[0]);
            } else {
                Check.holds("a call that is not read: " + line, !line.startsWith("gate."));
            }
        }
        // all methods but clear and setFirst
        Check.same("methods that are shown", called.size(), 29);
        Check.report("ReadmeTest");
    }

    private static String answerOf(Fencegate gate, String name, String texts) throws IllegalAccessException {
        Method method = Arrays.stream(Fencegate.class.getMethods()).filter(it -> it.getName().equals(name)).findFirst().get();
        Object[] arguments = texts.isEmpty() ? new Object[0] : Arrays.stream(texts.split(", ")).map(ReadmeTest::valueOf).toArray();
        try {
            Object answer = method.invoke(gate, arguments);
            return answer instanceof Character ? "'" + answer + "'" : answer.toString();
        } catch (InvocationTargetException e) {
            return "throws " + e.getCause().getClass().getSimpleName();
        }
    }

    private static Object valueOf(String text) {
        return text.startsWith("'") ? (Object) text.charAt(1) : Integer.valueOf(text);
    }
}
