import java.io.File;
import java.io.IOException;
import java.lang.reflect.Field;
import java.lang.reflect.Method;
import java.lang.reflect.Modifier;
import java.nio.file.Files;
import java.nio.file.Path;
import java.util.HashSet;
import java.util.List;
import java.util.Set;
import java.util.regex.Matcher;
import java.util.regex.Pattern;

/** README.md tells the truth: its example's answers, its values, and a row for all there is. */
public final class ReadmeTest {
    private static final String START = "TreeSlack net = new TreeSlack();";
    private static final Pattern CALL = Pattern.compile("net\\.(\\w+)\\((.*?)\\); +// ([-\\w]+)(: .*)?");
    private static final Pattern ROW = Pattern.compile("\\| `(\\w+)(?:\\((.*?)\\))?` \\| (.*?) \\|.*");

    public static void main(String[] args) throws IOException, ReflectiveOperationException {
        List<String> lines = Files.readAllLines(Path.of("README.md"));
        example(lines);
        Set<String> rows = new HashSet<>();
        for (String line : lines) {
            Matcher row = ROW.matcher(line);
            if (row.matches()) {
                rows.add(rowText(row));
            }
        }
        faceHasRows(rows);
        testsHaveRows(rows);
        Checks.finish();
    }

    private static void example(List<String> lines) throws ReflectiveOperationException {
        Set<String> shown = new HashSet<>();
        int first = lines.indexOf(START) + 1;
        Checks.due("the example begins", first > 0, true);
        TreeSlack net = new TreeSlack();
        for (int i = first; !lines.get(i).startsWith("```"); i++) {
            Matcher call = CALL.matcher(lines.get(i));
            boolean read = call.matches();
            Checks.due("a call with its answer: " + lines.get(i), read, true);
            if (read) {
                String got = answer(net, call.group(1), call.group(2));
                Checks.due(lines.get(i) + " answered " + got, got.equals(value(call.group(3))), true);
                shown.add(call.group(1));
            }
        }
        for (Method method : TreeSlack.class.getDeclaredMethods()) {
            if (Modifier.isPublic(method.getModifiers())) {
                Checks.due("the example has " + method.getName(), shown.contains(method.getName()), true);
            }
        }
    }

    private static String answer(TreeSlack net, String name, String arguments)
            throws ReflectiveOperationException {
        String[] texts = arguments.isEmpty() ? new String[0] : arguments.split(", ");
        Object[] values = new Object[texts.length];
        for (int i = 0; i < texts.length; i++) {
            boolean truth = texts[i].equals("true") || texts[i].equals("false");
            values[i] = truth ? (Object) Boolean.valueOf(texts[i]) : (Object) Integer.valueOf(texts[i]);
        }
        return String.valueOf(methodNamed(name).invoke(net, values));
    }

    private static Method methodNamed(String name) throws NoSuchMethodException {
        for (Method method : TreeSlack.class.getMethods()) {
            if (method.getName().equals(name)) {
                return method;
            }
        }
        throw new NoSuchMethodException(name);
    }

    /** A number or truth stands for itself, a constant's name for its value. */
    private static String value(String text) throws ReflectiveOperationException {
        boolean constant = Character.isUpperCase(text.charAt(0));
        return constant ? String.valueOf(TreeSlack.class.getField(text).getInt(null)) : text;
    }

    /** A call with the number of its arguments, a constant with its value, a test with its name. */
    private static String rowText(Matcher row) {
        String name = row.group(1);
        if (row.group(2) == null) {
            return name.endsWith("Test") ? name : name + " " + row.group(3);
        }
        int arguments = row.group(2).isEmpty() ? 0 : row.group(2).split(", ").length;
        return name + "/" + arguments;
    }

    private static void faceHasRows(Set<String> rows) throws IllegalAccessException {
        for (Method method : TreeSlack.class.getDeclaredMethods()) {
            if (Modifier.isPublic(method.getModifiers())) {
                String row = method.getName() + "/" + method.getParameterCount();
                Checks.due("a row for " + row, rows.contains(row), true);
            }
        }
        for (Field constant : TreeSlack.class.getFields()) {
            String row = constant.getName() + " " + constant.getInt(null);
            Checks.due("a row for " + row, rows.contains(row), true);
        }
    }

    private static void testsHaveRows(Set<String> rows) {
        for (String file : new File("src/test/java").list()) {
            if (file.endsWith("Test.java")) {
                String test = file.substring(0, file.length() - ".java".length());
                Checks.due("a row for " + test, rows.contains(test), true);
            }
        }
    }
}
