import java.io.IOException;
import java.lang.reflect.Field;
import java.lang.reflect.Method;
import java.lang.reflect.Modifier;
import java.nio.file.Files;
import java.nio.file.Path;
import java.util.Arrays;
import java.util.List;
import java.util.Set;
import java.util.TreeSet;
import java.util.regex.Matcher;
import java.util.regex.Pattern;

/** The face against the document's, and those rules of LANGUAGE.md that can be read off the source. */
final class FaceTest {
    private static final Path SOURCE = Path.of("src/main/java/Fencegate.java");
    private static final Path DOCUMENT = Path.of("../shared/DOC.md");

    public static void main(String[] args) throws IOException {
        face();
        members();
        String source = Files.readString(SOURCE);
        words(source);
        methods(source);
        Check.report("FaceTest");
    }

    /** Each line of the document's face must be a method here, with the same types and exceptions. */
    private static void face() throws IOException {
        Set<String> due = new TreeSet<>();
        Pattern line = Pattern.compile("    public (\\w+) (\\w+)\\((.*)\\)(?: throws (.*))?;");
        for (String text : Files.readAllLines(DOCUMENT)) {
            Matcher matcher = line.matcher(text);
            if (matcher.matches()) {
                String types = matcher.group(3).replaceAll("(\\w+) \\w+", "$1");
                String thrown = matcher.group(4) == null ? "" : matcher.group(4);
                due.add(matcher.group(1) + " " + matcher.group(2) + "(" + types + ") " + thrown);
            }
        }
        Set<String> found = new TreeSet<>();
        for (Method method : Fencegate.class.getDeclaredMethods()) {
            if (!Modifier.isPrivate(method.getModifiers())) {
                found.add(method.getReturnType() + " " + method.getName() + "(" + names(method.getParameterTypes()) + ") "
                        + names(method.getExceptionTypes()));
                Check.holds("public " + method.getName(), Modifier.isPublic(method.getModifiers()));
            }
        }
        Check.same("methods of the face", due.size(), 31);
        Check.same("the face", found, due);
        Check.same("the class", Fencegate.class.getModifiers(), Modifier.PUBLIC | Modifier.FINAL);
        Check.same("constructors", Fencegate.class.getDeclaredConstructors().length, 1);
        Check.same("public constructors", Fencegate.class.getConstructors().length, 1);
    }

    private static String names(Class<?>[] types) {
        return String.join(", ", Arrays.stream(types).map(Class::getSimpleName).toList());
    }

    private static void members() {
        Set<String> shown = new TreeSet<>();
        for (Method method : Fencegate.class.getMethods()) {
            shown.add(method.getName());
        }
        for (Field field : Fencegate.class.getDeclaredFields()) {
            Check.holds("private " + field.getName(), Modifier.isPrivate(field.getModifiers()));
        }
        Class<?>[] inside = Fencegate.class.getDeclaredClasses();
        Check.holds("some twelve classes", inside.length <= 12);
        for (Class<?> type : inside) {
            Check.holds("static " + type, Modifier.isStatic(type.getModifiers()));
            int fields = 0;
            for (Field field : type.getDeclaredFields()) {
                boolean fixed = Modifier.isFinal(field.getModifiers());
                Check.holds("static fields are final: " + field, fixed || !Modifier.isStatic(field.getModifiers()));
                fields += Modifier.isStatic(field.getModifiers()) ? 0 : 1;
            }
            Check.holds("some twenty fields in " + type, fields <= 20);
            for (Method method : type.getDeclaredMethods()) {
                Check.holds("a name of the face: " + method, !shown.contains(method.getName()));
                Check.holds("seven parameters: " + method, method.getParameterCount() <= 7);
            }
        }
        for (Method method : Fencegate.class.getDeclaredMethods()) {
            boolean hidden = Modifier.isPrivate(method.getModifiers());
            Check.holds("a private name of the face: " + method, !hidden || !shown.contains(method.getName()));
        }
    }

    private static void words(String source) {
        for (String no : List.of("->", "::", "finally", "catch (", "try {", "synchronized", "assert", "volatile", "native",
                "instanceof", "Random", "currentTimeMillis", "nanoTime", "System.out", "Thread", "String ", "getMessage",
                "package ", "protected ", "double[", "Exact(", "hashCode", "toString", "equals(")) {
            Check.holds("the source has no '" + no + "'", !withoutTexts(source).contains(no));
        }
        Matcher imports = Pattern.compile("(?m)^import (.*);$").matcher(source);
        Set<String> found = new TreeSet<>();
        while (imports.find()) {
            found.add(imports.group(1));
        }
        Check.same("imports", found, new TreeSet<>(List.of("java.util.Arrays", "java.util.NoSuchElementException")));
        for (int i = 0; i < source.length(); i++) {
            if (source.charAt(i) > 126) {
                Check.holds("a sign above 126 at " + i, false);
            }
        }
    }

    private static String withoutTexts(String source) {
        return source.replaceAll("(?s)/\\*\\*.*?\\*/", "").replaceAll("//.*", "").replaceAll("\"[^\"\n]*\"", "");
    }

    /** Methods stay short: from a line that opens one to the line that closes it with the same indent. */
    private static void methods(String source) {
        String[] lines = source.split("\n");
        int longest = 0;
        for (int i = 0; i < lines.length; i++) {
            Matcher opens = Pattern.compile("( {4}| {8})\\w.*\\) ?(throws .*)?\\{").matcher(lines[i]);
            if (opens.matches()) {
                int end = i;
                while (!lines[end].equals(opens.group(1) + "}")) {
                    end++;
                }
                longest = Math.max(longest, end - i + 1);
            }
        }
        Check.holds("methods of some sixty lines, the longest has " + longest, longest > 5 && longest <= 60);
    }
}
