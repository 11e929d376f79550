import java.util.List;

/** Counts the answers that are not as due, and ends a test. */
final class Check {
    // The kinds in the order of their numbers.
    private static final List<String> KINDS = List.of(
        "SET", "COPY", "ADD", "SUB", "MUL", "XOR", "LESS", "PRINT", "IFPOS", "ELSE", "LOOP", "END");

    private static int wrong = 0;
    private static String sentence = "";

    private Check() {
    }

    /** From here on, a wrong answer is told as a breach of these words of the document. */
    static void sentence(String words) {
        sentence = "\"" + words + "\": ";
    }

    static void due(String what, long got, long want) {
        if (got != want) {
            wrong++;
            System.out.println(sentence + what + " answered " + got + ", due is " + want);
        }
    }

    static void due(String what, boolean got, boolean want) {
        due(what, got ? 1L : 0L, want ? 1L : 0L);
    }

    static void variables(String what, StackScheduler x, int... want) {
        for (int v = 0; v < want.length; v++) {
            due(what + ": variable(" + v + ")", x.variable(v), want[v]);
        }
    }

    static void outputs(String what, StackScheduler x, int... want) {
        due(what + ": printed()", x.printed(), want.length);
        for (int k = 0; k < want.length; k++) {
            due(what + ": output(" + k + ")", x.output(k), want[k]);
        }
    }

    /** A new object with the given program: four numbers a statement. */
    static StackScheduler program(int... numbers) {
        StackScheduler x = new StackScheduler();
        for (int i = 0; i < numbers.length; i += 4) {
            int answer = x.add(numbers[i], numbers[i + 1], numbers[i + 2], numbers[i + 3]);
            due("add of statement " + i / 4, answer, i / 4 + 1);
        }
        return x;
    }

    /** Adds statements written as in the document, with ';' between them; numbers left out are 0. */
    static void write(StackScheduler x, String text) {
        for (String statement : text.split(";")) {
            String[] words = (statement.trim() + " 0 0 0").split(" +");
            int kind = KINDS.indexOf(words[0]);
            int[] n = new int[3];
            for (int i = 0; i < 3; i++) {
                n[i] = Integer.parseInt(words[i + 1]);
            }
            due("add of '" + statement.trim() + "' is taken", x.add(kind, n[0], n[1], n[2]) > 0, true);
        }
    }

    static StackScheduler program(String text) {
        StackScheduler x = new StackScheduler();
        write(x, text);
        return x;
    }

    static void finish() {
        System.out.println(wrong == 0 ? "all answers are as due" : wrong + " answers are not as due");
        if (wrong != 0) {
            System.exit(1);
        }
    }
}
