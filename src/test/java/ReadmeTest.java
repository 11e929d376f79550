import java.io.File;
import java.io.IOException;
import java.lang.reflect.Field;
import java.lang.reflect.Method;
import java.lang.reflect.Modifier;
import java.nio.file.Files;
import java.nio.file.Path;
import java.util.regex.Matcher;
import java.util.regex.Pattern;

/** README.md: its example is carried out line by line, and every call, constant and test is named in it. */
final class ReadmeTest {
    private static final Pattern CALL = Pattern.compile("s\\.(\\w+)\\((.*?)\\);\\s*(?:// answers (-?[\\w.]+?):?(?: .*)?|//.*)?");

    private static int answers = 0;

    public static void main(String[] args) throws IOException, ReflectiveOperationException {
        String text = Files.readString(Path.of("README.md"));
        example(text);
        names(text);
        tests(text);
        Check.finish();
    }

    private static void example(String text) throws ReflectiveOperationException {
        Matcher block = Pattern.compile("(?s)```java\n(.*?)```").matcher(text);
        Check.due("README.md has an example", block.find(), true);
        String[] lines = block.group(1).split("\n");
        Check.due("it begins with a new object", lines[0].equals("StackScheduler s = new StackScheduler();"), true);
        StackScheduler s = new StackScheduler();
        for (int i = 1; i < lines.length; i++) {
            Matcher call = CALL.matcher(lines[i]);
            boolean understood = call.matches();
            Check.due("a call can be read in '" + lines[i] + "'", understood, true);
            if (understood) {
                carryOut(s, call.group(1), call.group(2), call.group(3));
            }
        }
        Check.due("the example tells answers", answers > 0, true);
    }

    private static void carryOut(StackScheduler s, String name, String numbers, String want) throws ReflectiveOperationException {
        String[] words = numbers.isEmpty() ? new String[0] : numbers.split(", ");
        Class<?>[] types = new Class<?>[words.length];
        Object[] arguments = new Object[words.length];
        for (int i = 0; i < words.length; i++) {
            types[i] = int.class;
            arguments[i] = number(words[i]);
        }
        Method method = StackScheduler.class.getMethod(name, types);
        Object got = method.invoke(s, arguments);
        Check.due(name + " tells its answer", want != null, method.getReturnType() != void.class);
        if (want != null) {
            answers++;
            Check.due("README.md: s." + name + "(" + numbers + ")", got instanceof Boolean b ? (b ? 1 : 0) : (Integer) got, number(want));
        }
    }

    private static int number(String word) throws ReflectiveOperationException {
        if (word.equals("true") || word.equals("false")) {
            return word.equals("true") ? 1 : 0;
        }
        if (word.startsWith("StackScheduler.")) {
            return StackScheduler.class.getField(word.substring("StackScheduler.".length())).getInt(null);
        }
        return Integer.parseInt(word);
    }

    private static void names(String text) throws ReflectiveOperationException {
        for (Field field : StackScheduler.class.getFields()) {
            String name = field.getName();
            int value = field.getInt(null);
            String told = value < 0 ? "`" + name + "` is " + value : "`" + name + "` (" + value + ")";
            Check.due("README.md tells " + told, text.contains(told), true);
        }
        for (Method method : StackScheduler.class.getDeclaredMethods()) {
            if (Modifier.isPublic(method.getModifiers())) {
                Check.due("README.md has a row for " + method, text.contains("\n| `" + method.getName() + "("), true);
            }
        }
    }

    private static void tests(String text) {
        for (String file : new File("src/test/java").list()) {
            if (file.endsWith("Test.java")) {
                String name = file.substring(0, file.length() - ".java".length());
                Check.due("README.md has a row for " + name, text.contains("\n| `" + name + "` |"), true);
            }
        }
    }
}
