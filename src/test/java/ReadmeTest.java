import java.io.IOException;
import java.lang.reflect.Field;
import java.lang.reflect.InvocationTargetException;
import java.lang.reflect.Method;
import java.lang.reflect.Modifier;
import java.nio.file.Files;
import java.nio.file.Path;
import java.util.List;
import java.util.regex.Matcher;
import java.util.regex.Pattern;
import java.util.stream.Collectors;
import java.util.stream.Stream;

/**
 * README.md says how to use the class: its examples are played call by call, and the answer that the
 * comment behind a line begins with is asked for; every call, constant and test is named.
 */
public final class ReadmeTest {
    private static final String NEW_OBJECT = "WhoSpeaks x = new WhoSpeaks();";
    private static final Pattern CALL = Pattern.compile("x\\.(\\w+)\\(([^;]*)\\);");
    private static final Pattern DUE = Pattern.compile("//\\s*(-?\\d+|[A-Z]+)(:.*)?$");
    private static int wrong = 0;
    private static int answers = 0;

    public static void main(String[] args) throws IOException, ReflectiveOperationException {
        if (args.length == 0) {
            System.out.println("the class's file must be given as an argument");
            System.exit(1);
        }
        Path root = rootOf(Path.of(args[0]).toAbsolutePath());
        List<String> lines = Files.readAllLines(root.resolve("README.md"));
        examples(lines);
        due("there are examples with answers", answers > 0);
        String text = String.join("\n", lines);
        names(text);
        tests(text, root);
        System.out.println(wrong == 0 ? "README.md: " + answers + " answers, all as due"
                : wrong + " faults of README.md");
        if (wrong != 0) {
            System.exit(1);
        }
    }

    /** The class's file is src/main/java/WhoSpeaks.java. */
    private static Path rootOf(Path source) {
        return source.getParent().getParent().getParent().getParent();
    }

    private static void due(String what, boolean holds) {
        if (!holds) {
            wrong++;
            System.out.println("does not hold: " + what);
        }
    }

    private static void examples(List<String> lines) throws ReflectiveOperationException {
        WhoSpeaks x = null;
        boolean inside = false;
        for (String line : lines) {
            if (line.startsWith("```")) {
                inside = line.equals("```java");
                x = null;
            } else if (inside && line.equals(NEW_OBJECT)) {
                x = new WhoSpeaks();
            } else if (inside) {
                due("an example begins with a new object: " + line, x != null);
                play(x, line);
            }
        }
    }

    private static void play(WhoSpeaks x, String line) throws ReflectiveOperationException {
        Matcher call = CALL.matcher(line);
        long answer = 0;
        int calls = 0;
        int end = 0;
        while (x != null && call.find()) {
            answer = answerOf(x, call.group(1), call.group(2));
            calls++;
            end = call.end();
        }
        due("a line of an example has calls: " + line, calls > 0);
        String rest = line.substring(end).trim();
        Matcher told = DUE.matcher(rest);
        if (told.matches()) {
            answers++;
            due(line + " (answered " + answer + ")", answer == valueOf(told.group(1)));
        } else {
            due("what stands behind the calls begins with an answer: " + line, rest.isEmpty());
        }
    }

    private static long answerOf(WhoSpeaks x, String name, String list)
            throws ReflectiveOperationException {
        String[] words = list.isEmpty() ? new String[0] : list.split(",\\s*");
        Class<?>[] types = new Class<?>[words.length];
        Object[] values = new Object[words.length];
        for (int i = 0; i < words.length; i++) {
            types[i] = int.class;
            values[i] = (int) valueOf(argumentOf(words[i]));
        }
        try {
            return ((Number) WhoSpeaks.class.getMethod(name, types).invoke(x, values)).longValue();
        } catch (InvocationTargetException thrown) {
            due(name + "(" + list + ") throws nothing, but threw " + thrown.getCause(), false);
            return Long.MIN_VALUE;
        }
    }

    /** An example must compile outside the class, so a constant is told with the class's name. */
    private static String argumentOf(String word) {
        String mark = "WhoSpeaks.";
        due("an argument can stand outside the class: " + word, !word.matches("[A-Z]+"));
        return word.startsWith(mark) ? word.substring(mark.length()) : word;
    }

    /** A number, a sign in quotes, or a constant of the class. */
    private static long valueOf(String word) throws ReflectiveOperationException {
        if (word.matches("'.'")) {
            return word.charAt(1);
        }
        if (word.matches("[A-Z]+")) {
            return WhoSpeaks.class.getField(word).getInt(null);
        }
        return Long.parseLong(word);
    }

    private static void names(String text) {
        for (Method method : WhoSpeaks.class.getDeclaredMethods()) {
            if (Modifier.isPublic(method.getModifiers())) {
                due("a row of the table tells of " + method.getName(),
                        text.contains("\n| `" + method.getName() + "("));
            }
        }
        for (Field field : WhoSpeaks.class.getFields()) {
            due("the page tells of " + field.getName(), text.contains("`" + field.getName() + "`"));
        }
    }

    private static void tests(String text, Path root) throws IOException {
        try (Stream<Path> files = Files.list(root.resolve("src/test/java"))) {
            for (Path file : files.collect(Collectors.toList())) {
                due("the page tells of " + file.getFileName(),
                        text.contains("`src/test/java/" + file.getFileName() + "`"));
            }
        }
        Matcher told = Pattern.compile("`(src/[\\w/]+\\.java)`").matcher(text);
        while (told.find()) {
            due("there is " + told.group(1), Files.exists(root.resolve(told.group(1))));
        }
        due("the page tells how the tests are run", text.contains("\n    .ci/run\n"));
    }
}
