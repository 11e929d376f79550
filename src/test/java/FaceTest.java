import java.io.IOException;
import java.lang.reflect.Constructor;
import java.lang.reflect.Field;
import java.lang.reflect.Method;
import java.lang.reflect.Modifier;
import java.nio.file.Files;
import java.nio.file.Path;
import java.util.Set;
import java.util.TreeSet;
import java.util.regex.Matcher;
import java.util.regex.Pattern;

/** The public face of the document, and what of LANGUAGE.md can be seen from outside or from the words of the source. */
final class FaceTest {
    private static final String SOURCE = "src/main/java/StackScheduler.java";

    public static void main(String[] args) throws IOException, IllegalAccessException {
        constants();
        Check.due("the class is public and final", StackScheduler.class.getModifiers(), Modifier.PUBLIC | Modifier.FINAL);
        same("constructors", constructors(), Set.of("public StackScheduler()"));
        same("methods", methods(), Set.of(
            "public int StackScheduler.add(int,int,int,int)",
            "public int StackScheduler.retract()",
            "public boolean StackScheduler.sound()",
            "public boolean StackScheduler.put(int,int)",
            "public int StackScheduler.run()",
            "public int StackScheduler.variable(int)",
            "public int StackScheduler.printed()",
            "public int StackScheduler.output(int)",
            "public void StackScheduler.clear()"));
        Check.due("nested classes", StackScheduler.class.getDeclaredClasses().length, 0);
        words();
        Check.finish();
    }

    private static void constants() throws IllegalAccessException {
        String[] names = {
            "SET", "COPY", "ADD", "SUB", "MUL", "XOR", "LESS", "PRINT", "IFPOS", "ELSE", "LOOP", "END",
            "BAD", "FULL", "UNSOUND",
        };
        Set<String> want = new TreeSet<>();
        for (int i = 0; i < names.length; i++) {
            want.add("public static final int " + names[i] + " " + (i < 12 ? i : 11 - i));
        }
        Set<String> got = new TreeSet<>();
        for (Field field : StackScheduler.class.getDeclaredFields()) {
            int modifiers = field.getModifiers();
            if (!Modifier.isPrivate(modifiers)) {
                got.add(Modifier.toString(modifiers) + " " + field.getType() + " " + field.getName() + " " + field.getInt(null));
            } else if (Modifier.isStatic(modifiers)) {
                boolean number = field.getType() == int.class || field.getType() == long.class;
                Check.due(field.getName() + " is a constant number", number && Modifier.isFinal(modifiers), true);
            }
        }
        same("constants", got, want);
    }

    private static Set<String> constructors() {
        Set<String> got = new TreeSet<>();
        for (Constructor<?> constructor : StackScheduler.class.getDeclaredConstructors()) {
            got.add(constructor.toString());
        }
        return got;
    }

    private static Set<String> methods() {
        Set<String> open = new TreeSet<>();
        Set<String> publicNames = new TreeSet<>();
        for (Method method : StackScheduler.class.getDeclaredMethods()) {
            if (!Modifier.isPrivate(method.getModifiers())) {
                open.add(method.toString());
                publicNames.add(method.getName());
            }
        }
        for (Method method : StackScheduler.class.getDeclaredMethods()) {
            boolean hidden = Modifier.isPrivate(method.getModifiers());
            Check.due(method + " bears a public name", hidden && publicNames.contains(method.getName()), false);
            Check.due(method + " has at most seven parameters", method.getParameterCount() <= 7, true);
        }
        return open;
    }

    private static void same(String what, Set<String> got, Set<String> want) {
        Set<String> extra = new TreeSet<>(got);
        extra.removeAll(want);
        Set<String> missing = new TreeSet<>(want);
        missing.removeAll(got);
        Check.due(what + " too many " + extra, extra.size(), 0);
        Check.due(what + " missing " + missing, missing.size(), 0);
    }

    private static void words() throws IOException {
        String code = Files.readString(Path.of(SOURCE)).replaceAll("(?s)/\\*.*?\\*/", " ").replaceAll("//[^\n]*", " ");
        String[] forbidden = {
            "package", "import", "float", "double", "String", "Math", "Integer", "System", "Arrays", "Object",
            "null", "throw", "throws", "try", "catch", "synchronized", "assert", "instanceof", "enum", "record",
            "interface", "protected", "hashCode", "equals", "toString", "getClass",
        };
        for (String word : forbidden) {
            Matcher found = Pattern.compile("\\b" + word + "\\b").matcher(code);
            Check.due("the source has the word " + word, found.find(), false);
        }
        String[] patterns = {"->", "::", "\"", "\\bstatic\\s*\\{", "\\[\\s*\\]\\s*\\[", "\\[\\s*\\]\\s*\\w+\\s*\\("};
        for (String pattern : patterns) {
            Check.due("the source has " + pattern, Pattern.compile(pattern).matcher(code).find(), false);
        }
        Matcher made = Pattern.compile("\\bnew\\b").matcher(code);
        Matcher fieldArrays = Pattern.compile("(?m)^    private final int\\[\\] \\w+ = new int\\[[A-Z_]+\\];$").matcher(code);
        Check.due("every new is a field's array", made.results().count(), fieldArrays.results().count());
    }
}
