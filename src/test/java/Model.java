import java.util.ArrayList;
import java.util.Arrays;
import java.util.List;

/** The document's words in another form: the program is read into nested blocks, which are passed by recursion. */
final class Model {
    private final List<int[]> statements = new ArrayList<>();
    private final int[] variables = new int[6];
    private final List<Integer> output = new ArrayList<>();

    int add(int kind, int a, int b, int c) {
        if (statements.size() == 40) {
            return -2;
        }
        if (kind < 0 || kind > 11) {
            return -1;
        }
        int bound = kind == 9 || kind == 11 ? 0 : kind == 1 ? 2 : kind >= 2 && kind <= 6 ? 3 : 1;
        int[] numbers = {a, b, c};
        if (Arrays.stream(numbers).limit(bound).anyMatch(n -> n < 0 || n > 5)) {
            return -1;
        }
        statements.add(new int[] {kind, a, b, c});
        return statements.size();
    }

    int retract() {
        if (statements.isEmpty()) {
            return -1;
        }
        statements.remove(statements.size() - 1);
        return statements.size();
    }

    /** How many ENDs are missing, as far as a plain count tells. */
    int missingEnds() {
        int open = 0;
        for (int[] s : statements) {
            open += s[0] == 8 || s[0] == 10 ? 1 : s[0] == 11 ? -1 : 0;
        }
        return open;
    }

    boolean sound() {
        // Innermost choices and loops are struck out, each raising the mark of how deep the text around it goes.
        StringBuilder text = new StringBuilder();
        for (int[] s : statements) {
            text.append(s[0] == 8 ? "i" : s[0] == 9 ? "e" : s[0] == 10 ? "l" : s[0] == 11 ? "n" : "0");
        }
        String now = text.toString();
        for (int depth = 1; depth <= 3; depth++) {
            now = now.replaceAll("i0*(e0*)?n|l0*n", "#").replace('#', '0');
        }
        return now.matches("0*");
    }

    boolean put(int v, int value) {
        if (v < 0 || v > 5) {
            return false;
        }
        variables[v] = value;
        return true;
    }

    int run() {
        if (!sound()) {
            return -3;
        }
        output.clear();
        passBlock(0, true);
        return output.size();
    }

    /** Passes, or only reads over, statements up to the ELSE or END that ends the block; answers its place. */
    private int passBlock(int from, boolean really) {
        int at = from;
        while (at < statements.size()) {
            int[] s = statements.get(at);
            if (s[0] == 9 || s[0] == 11) {
                return at;
            }
            at = s[0] == 8 ? passChoice(at, really) : s[0] == 10 ? passLoop(at, really) : passPlain(at, really);
        }
        return at;
    }

    private int passChoice(int at, boolean really) {
        boolean first = variables[statements.get(at)[1]] > 0;
        int stop = passBlock(at + 1, really && first);
        if (statements.get(stop)[0] == 9) {
            stop = passBlock(stop + 1, really && !first);
        }
        return stop + 1;
    }

    private int passLoop(int at, boolean really) {
        int stop = passBlock(at + 1, false);
        for (int i = 0; really && i < statements.get(at)[1]; i++) {
            passBlock(at + 1, true);
        }
        return stop + 1;
    }

    private int passPlain(int at, boolean really) {
        int[] s = statements.get(at);
        if (really && s[0] == 7) {
            output.add(variables[s[1]]);
        } else if (really) {
            variables[s[1]] = value(s);
        }
        return at + 1;
    }

    private int value(int[] s) {
        if (s[0] == 0) {
            return s[2];
        }
        long b = variables[s[2]];
        if (s[0] == 1) {
            return (int) b;
        }
        long c = variables[s[3]];
        long[] results = {b + c, b - c, b * c, b ^ c, b < c ? 1 : 0};
        return (int) results[s[0] - 2];
    }

    int variable(int v) {
        return v < 0 || v > 5 ? 0 : variables[v];
    }

    int printed() {
        return output.size();
    }

    int output(int k) {
        return k < 0 || k >= Math.min(64, output.size()) ? 0 : output.get(k);
    }

    void clear() {
        statements.clear();
        output.clear();
        Arrays.fill(variables, 0);
    }
}
