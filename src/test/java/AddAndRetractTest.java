/** Promises 2, 3 and 11: add, retract, and that a refused call changes nothing. */
final class AddAndRetractTest {
    private static final int MIN = Integer.MIN_VALUE;
    private static final int MAX = Integer.MAX_VALUE;
    private static final int[] STRANGE = {MIN, MIN + 1, -7, -1, 6, 7, 12, 40, 64, 256, 65536, MAX};
    // How many of a, b, c must lie in 0..5, by kind.
    private static final int[] BOUND = {1, 2, 3, 3, 3, 3, 3, 1, 1, 0, 1, 0};

    public static void main(String[] args) {
        numbersOfEveryKind();
        kindsOutside();
        setTakesAnyNumber();
        fullComesFirst();
        retractToNothing();
        retractThenAddAnother();
        refusedAddChangesNothing();
        editingKeepsVariablesAndOutput();
        Check.finish();
    }

    private static void numbersOfEveryKind() {
        for (int kind = 0; kind <= 11; kind++) {
            for (int good = 0; good <= 5; good++) {
                StackScheduler x = new StackScheduler();
                Check.due("add(" + kind + ") with " + good, x.add(kind, good, good, good), 1);
                oneStrange(x, kind, good);
            }
        }
    }

    private static void oneStrange(StackScheduler x, int kind, int good) {
        for (int position = 0; position < 3; position++) {
            for (int strange : STRANGE) {
                int a = position == 0 ? strange : good;
                int b = position == 1 ? strange : good;
                int c = position == 2 ? strange : good;
                boolean bad = position < BOUND[kind];
                String call = "add(" + kind + ", " + a + ", " + b + ", " + c + ")";
                Check.due(call, x.add(kind, a, b, c), bad ? StackScheduler.BAD : 2);
                Check.due("retract() after " + call, x.retract(), bad ? 0 : 1);
                if (bad) {
                    Check.due("add again", x.add(kind, good, good, good), 1);
                }
            }
        }
    }

    private static void kindsOutside() {
        StackScheduler x = new StackScheduler();
        int[] kinds = {-1, -2, -3, 12, 13, 100, 256, 267, MIN, MAX};
        for (int kind : kinds) {
            Check.due("add(" + kind + ")", x.add(kind, 0, 0, 0), StackScheduler.BAD);
        }
        Check.due("retract()", x.retract(), StackScheduler.BAD);
    }

    private static void setTakesAnyNumber() {
        StackScheduler x = Check.program(
            StackScheduler.SET, 0, MIN, MAX,
            StackScheduler.SET, 1, MAX, MIN,
            StackScheduler.SET, 5, -1, 99);
        Check.due("run()", x.run(), 0);
        Check.variables("set", x, MIN, MAX, 0, 0, 0, -1);
    }

    private static void fullComesFirst() {
        StackScheduler x = new StackScheduler();
        for (int i = 0; i < 40; i++) {
            Check.due("a bad add before " + i, x.add(12, 0, 0, 0), StackScheduler.BAD);
            Check.due("add " + i, x.add(StackScheduler.PRINT, i % 6, 0, 0), i + 1);
        }
        Check.due("a good add when full", x.add(StackScheduler.PRINT, 0, 0, 0), StackScheduler.FULL);
        Check.due("a bad kind when full", x.add(-1, 0, 0, 0), StackScheduler.FULL);
        Check.due("a bad number when full", x.add(StackScheduler.SET, 6, 0, 0), StackScheduler.FULL);
        Check.due("END when full", x.add(StackScheduler.END, 0, 0, 0), StackScheduler.FULL);
        Check.due("sound() when full", x.sound(), true);
        x.put(3, 33);
        Check.due("run() when full", x.run(), 40);
        Check.due("output(39)", x.output(39), 33);
        Check.due("retract() when full", x.retract(), 39);
        Check.due("bad again", x.add(12, 0, 0, 0), StackScheduler.BAD);
        Check.due("room again", x.add(StackScheduler.PRINT, 0, 0, 0), 40);
        Check.due("full again", x.add(StackScheduler.PRINT, 0, 0, 0), StackScheduler.FULL);
    }

    private static void retractToNothing() {
        StackScheduler x = new StackScheduler();
        Check.due("retract() of nothing", x.retract(), StackScheduler.BAD);
        for (int i = 0; i < 40; i++) {
            x.add(StackScheduler.PRINT, 0, 0, 0);
        }
        for (int i = 39; i >= 0; i--) {
            Check.due("retract()", x.retract(), i);
        }
        Check.due("retract() of nothing left", x.retract(), StackScheduler.BAD);
        Check.due("retract() twice of nothing left", x.retract(), StackScheduler.BAD);
        Check.due("add after refused retracts", x.add(StackScheduler.PRINT, 0, 0, 0), 1);
    }

    private static void retractThenAddAnother() {
        StackScheduler x = Check.program(
            StackScheduler.SET, 0, 1, 0,
            StackScheduler.SET, 1, 2, 0,
            StackScheduler.SET, 2, 3, 0);
        Check.due("retract()", x.retract(), 2);
        Check.due("add in its place", x.add(StackScheduler.SET, 3, 4, 0), 3);
        Check.due("run()", x.run(), 0);
        Check.variables("the last one is replaced", x, 1, 2, 0, 4, 0, 0);
    }

    private static void refusedAddChangesNothing() {
        StackScheduler x = Check.program(
            StackScheduler.SET, 0, 9, 0,
            StackScheduler.PRINT, 0, 0, 0);
        x.run();
        Check.due("add", x.add(StackScheduler.SET, -1, 5, 0), StackScheduler.BAD);
        Check.due("add", x.add(StackScheduler.ADD, 0, 1, 6), StackScheduler.BAD);
        Check.due("add", x.add(StackScheduler.LOOP, 6, 0, 0), StackScheduler.BAD);
        Check.variables("after refused adds", x, 9, 0, 0, 0, 0, 0);
        Check.outputs("after refused adds", x, 9);
        Check.due("sound()", x.sound(), true);
        Check.due("run()", x.run(), 1);
        Check.due("retract()", x.retract(), 1);
    }

    private static void editingKeepsVariablesAndOutput() {
        StackScheduler x = Check.program(
            StackScheduler.SET, 0, 9, 0,
            StackScheduler.PRINT, 0, 0, 0);
        x.run();
        x.add(StackScheduler.SET, 0, 1, 0);
        x.retract();
        x.retract();
        x.retract();
        x.retract();
        Check.variables("after edits", x, 9, 0, 0, 0, 0, 0);
        Check.outputs("after edits", x, 9);
    }
}
