/** Promises 6 and 11: run, with what each kind of statement does. */
final class RunTest {
    private static final int MIN = Integer.MIN_VALUE;
    private static final int MAX = Integer.MAX_VALUE;
    private static final int[] VALUES = {MIN, MIN + 1, -65536, -3, -1, 0, 1, 2, 46341, 65536, MAX - 1, MAX};

    public static void main(String[] args) {
        arithmetic();
        targetAmongSources();
        choices();
        loops();
        nestedLoops();
        choiceLooksAtTheValueOnce();
        loopsAreBegunAnew();
        choiceInsideLoop();
        runGoesOnWithTheVariables();
        unsoundChangesNothing();
        pairsFollowEdits();
        Check.finish();
    }

    private static int wanted(int kind, int b, int c) {
        switch (kind) {
            case StackScheduler.ADD:
                return b + c;
            case StackScheduler.SUB:
                return b - c;
            case StackScheduler.MUL:
                return b * c;
            case StackScheduler.XOR:
                return b ^ c;
            default:
                return (long) b - (long) c < 0 ? 1 : 0;
        }
    }

    private static void arithmetic() {
        for (int kind = StackScheduler.ADD; kind <= StackScheduler.LESS; kind++) {
            for (int b : VALUES) {
                for (int c : VALUES) {
                    StackScheduler x = Check.program(kind, 3, 1, 5);
                    x.put(1, b);
                    x.put(3, 77);
                    x.put(5, c);
                    Check.due("run()", x.run(), 0);
                    String what = "kind " + kind + " of " + b + " and " + c;
                    Check.variables(what, x, 0, b, 0, wanted(kind, b, c), 0, c);
                }
            }
        }
    }

    private static void targetAmongSources() {
        for (int kind = StackScheduler.ADD; kind <= StackScheduler.LESS; kind++) {
            StackScheduler x = Check.program(kind, 0, 0, 1, kind, 3, 2, 3, kind, 4, 4, 4);
            x.put(0, -9);
            x.put(1, 4);
            x.put(2, 13);
            x.put(3, 6);
            x.put(4, 21);
            x.run();
            int[] want = {wanted(kind, -9, 4), 4, 13, wanted(kind, 13, 6), wanted(kind, 21, 21), 0};
            Check.variables("kind " + kind + " onto its own source", x, want);
        }
        StackScheduler x = Check.program(
            StackScheduler.COPY, 1, 0, 9,
            StackScheduler.COPY, 0, 2, 9,
            StackScheduler.COPY, 4, 4, -1,
            StackScheduler.COPY, 5, 1, 0);
        x.put(0, 3);
        x.put(2, 8);
        x.put(4, 5);
        x.run();
        Check.variables("copies", x, 8, 3, 8, 0, 5, 3);
    }

    private static void choices() {
        for (int value : VALUES) {
            boolean positive = value > 0;
            StackScheduler x = Check.program(
                StackScheduler.IFPOS, 2, 0, 0,
                StackScheduler.SET, 0, 1, 0,
                StackScheduler.END, 0, 0, 0,
                StackScheduler.IFPOS, 2, 0, 0,
                StackScheduler.SET, 1, 1, 0,
                StackScheduler.ELSE, 0, 0, 0,
                StackScheduler.SET, 1, 2, 0,
                StackScheduler.END, 0, 0, 0,
                StackScheduler.IFPOS, 2, 0, 0,
                StackScheduler.ELSE, 0, 0, 0,
                StackScheduler.SET, 3, 1, 0,
                StackScheduler.END, 0, 0, 0,
                StackScheduler.IFPOS, 2, 0, 0,
                StackScheduler.SET, 4, 1, 0,
                StackScheduler.ELSE, 0, 0, 0,
                StackScheduler.END, 0, 0, 0,
                StackScheduler.SET, 5, 9, 0);
            x.put(2, value);
            Check.due("run()", x.run(), 0);
            int one = positive ? 1 : 0;
            Check.variables("choices on " + value, x, one, 2 - one, value, 1 - one, one, 9);
        }
    }

    private static void loops() {
        for (int passes = 0; passes <= 5; passes++) {
            StackScheduler x = Check.program(
                StackScheduler.LOOP, passes, 0, 0,
                StackScheduler.ADD, 0, 0, 1,
                StackScheduler.PRINT, 0, 0, 0,
                StackScheduler.END, 0, 0, 0,
                StackScheduler.SET, 2, 4, 0);
            x.put(1, 10);
            // A LOOP's a is a number of passes: the variable of that number plays no part.
            x.put(3, 1);
            x.put(4, 2);
            x.put(5, -1);
            Check.due("run() of LOOP " + passes, x.run(), passes);
            Check.due("variable(0)", x.variable(0), 10 * passes);
            Check.due("variable(2)", x.variable(2), 4);
            Check.due("output(last)", x.output(passes - 1), 10 * passes);
        }
    }

    private static void nestedLoops() {
        for (int p = 0; p <= 5; p++) {
            for (int q = 0; q <= 5; q++) {
                for (int r = 0; r <= 5; r++) {
                    StackScheduler x = Check.program(
                        StackScheduler.SET, 5, 1, 0,
                        StackScheduler.LOOP, p, 0, 0,
                        StackScheduler.ADD, 0, 0, 5,
                        StackScheduler.LOOP, q, 0, 0,
                        StackScheduler.ADD, 1, 1, 5,
                        StackScheduler.LOOP, r, 0, 0,
                        StackScheduler.ADD, 2, 2, 5,
                        StackScheduler.END, 0, 0, 0,
                        StackScheduler.END, 0, 0, 0,
                        StackScheduler.END, 0, 0, 0);
                    Check.due("run()", x.run(), 0);
                    String what = "loops " + p + " " + q + " " + r;
                    Check.variables(what, x, p, p * q, p * q * r, 0, 0, 1);
                }
            }
        }
    }

    private static void choiceLooksAtTheValueOnce() {
        StackScheduler x = Check.program(
            StackScheduler.IFPOS, 0, 0, 0,
            StackScheduler.SET, 0, -1, 0,
            StackScheduler.SET, 1, 5, 0,
            StackScheduler.ELSE, 0, 0, 0,
            StackScheduler.SET, 0, 1, 0,
            StackScheduler.SET, 2, 6, 0,
            StackScheduler.END, 0, 0, 0);
        x.put(0, 1);
        x.run();
        Check.variables("first part", x, -1, 5, 0, 0, 0, 0);
        x.run();
        Check.variables("second part", x, 1, 5, 6, 0, 0, 0);
    }

    private static void loopsAreBegunAnew() {
        StackScheduler x = Check.program(
            StackScheduler.SET, 5, 1, 0,
            StackScheduler.LOOP, 2, 0, 0,
            StackScheduler.ADD, 0, 0, 5,
            StackScheduler.END, 0, 0, 0,
            StackScheduler.LOOP, 3, 0, 0,
            StackScheduler.ADD, 0, 0, 5,
            StackScheduler.LOOP, 0, 0, 0,
            StackScheduler.ADD, 1, 1, 5,
            StackScheduler.END, 0, 0, 0,
            StackScheduler.END, 0, 0, 0);
        for (int runs = 1; runs <= 4; runs++) {
            x.run();
            Check.variables("run " + runs, x, 5 * runs, 0, 0, 0, 0, 1);
        }
    }

    private static void choiceInsideLoop() {
        StackScheduler x = Check.program(
            StackScheduler.LOOP, 5, 0, 0,
            StackScheduler.SUB, 0, 0, 1,
            StackScheduler.IFPOS, 0, 0, 0,
            StackScheduler.IFPOS, 2, 0, 0,
            StackScheduler.PRINT, 2, 0, 0,
            StackScheduler.ELSE, 0, 0, 0,
            StackScheduler.PRINT, 0, 0, 0,
            StackScheduler.SET, 2, 50, 0,
            StackScheduler.END, 0, 0, 0,
            StackScheduler.ELSE, 0, 0, 0,
            StackScheduler.PRINT, 3, 0, 0,
            StackScheduler.END, 0, 0, 0,
            StackScheduler.END, 0, 0, 0);
        x.put(0, 4);
        x.put(1, 1);
        x.put(3, -7);
        Check.due("run()", x.run(), 5);
        Check.outputs("choice inside loop", x, 3, 50, 50, -7, -7);
        Check.variables("choice inside loop", x, -1, 1, 50, -7, 0, 0);
    }

    private static void runGoesOnWithTheVariables() {
        StackScheduler x = Check.program(
            StackScheduler.ADD, 0, 0, 1,
            StackScheduler.PRINT, 0, 0, 0);
        x.put(1, 3);
        Check.due("run() 1", x.run(), 1);
        Check.due("run() 2", x.run(), 1);
        Check.outputs("the output is of the last run", x, 6);
        x.retract();
        Check.due("run() that prints nothing", x.run(), 0);
        Check.outputs("the output becomes empty", x);
        Check.due("output(0) of an empty output", x.output(0), 0);
        x.retract();
        Check.due("run() of nothing", x.run(), 0);
        Check.variables("run of nothing", x, 9, 3, 0, 0, 0, 0);
    }

    private static void unsoundChangesNothing() {
        StackScheduler x = Check.program(
            StackScheduler.SET, 0, 4, 0,
            StackScheduler.PRINT, 0, 0, 0,
            StackScheduler.PRINT, 1, 0, 0);
        x.put(1, 6);
        Check.due("run()", x.run(), 2);
        x.put(0, 70);
        int[] wrongEnds = {StackScheduler.IFPOS, StackScheduler.LOOP, StackScheduler.ELSE, StackScheduler.END};
        for (int kind : wrongEnds) {
            x.add(kind, 0, 0, 0);
            Check.due("run() with " + kind + " at the end", x.run(), StackScheduler.UNSOUND);
            Check.variables("refused run", x, 70, 6, 0, 0, 0, 0);
            Check.outputs("refused run", x, 4, 6);
            Check.due("retract()", x.retract(), 3);
        }
        Check.due("run() when sound again", x.run(), 2);
        Check.variables("sound again", x, 4, 6, 0, 0, 0, 0);
    }

    private static void pairsFollowEdits() {
        StackScheduler x = Check.program(
            StackScheduler.IFPOS, 0, 0, 0,
            StackScheduler.PRINT, 1, 0, 0,
            StackScheduler.ELSE, 0, 0, 0,
            StackScheduler.PRINT, 2, 0, 0,
            StackScheduler.END, 0, 0, 0);
        x.put(1, 11);
        x.put(2, 22);
        x.run();
        Check.outputs("with ELSE", x, 22);
        x.retract();
        x.retract();
        x.retract();
        x.add(StackScheduler.END, 0, 0, 0);
        x.add(StackScheduler.PRINT, 2, 0, 0);
        x.add(StackScheduler.PRINT, 1, 0, 0);
        x.run();
        Check.outputs("without ELSE", x, 22, 11);
        x.clear();
        x.add(StackScheduler.LOOP, 2, 0, 0);
        x.add(StackScheduler.PRINT, 0, 0, 0);
        x.add(StackScheduler.END, 0, 0, 0);
        x.run();
        Check.outputs("a loop in its place", x, 0, 0);
    }
}
