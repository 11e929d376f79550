/** Promises 1 and 10: a new object, and clear. */
final class NewAndClearTest {
    public static void main(String[] args) {
        beginning("new", new StackScheduler());
        clearAfterUse();
        clearOfUnsound();
        objectsAreApart();
        Check.finish();
    }

    private static void beginning(String what, StackScheduler x) {
        Check.variables(what, x, 0, 0, 0, 0, 0, 0);
        Check.outputs(what, x);
        for (int k = 0; k < 70; k++) {
            Check.due(what + ": output(" + k + ")", x.output(k), 0);
        }
        Check.due(what + ": sound()", x.sound(), true);
        Check.due(what + ": retract()", x.retract(), StackScheduler.BAD);
        Check.due(what + ": run()", x.run(), 0);
        Check.due(what + ": add", x.add(StackScheduler.PRINT, 5, 0, 0), 1);
        Check.due(what + ": run() of a print", x.run(), 1);
        Check.due(what + ": output(0)", x.output(0), 0);
    }

    private static void clearAfterUse() {
        StackScheduler x = Check.program(
            StackScheduler.LOOP, 5, 0, 0,
            StackScheduler.LOOP, 5, 0, 0,
            StackScheduler.LOOP, 5, 0, 0,
            StackScheduler.PRINT, 4, 0, 0,
            StackScheduler.END, 0, 0, 0,
            StackScheduler.END, 0, 0, 0,
            StackScheduler.END, 0, 0, 0);
        for (int v = 0; v < 6; v++) {
            x.put(v, 100 + v);
        }
        Check.due("run()", x.run(), 125);
        x.clear();
        beginning("cleared", x);
        x.clear();
        x.clear();
        beginning("cleared twice", x);
    }

    private static void clearOfUnsound() {
        StackScheduler x = Check.program(StackScheduler.LOOP, 2, 0, 0);
        Check.due("sound()", x.sound(), false);
        x.clear();
        beginning("cleared while unsound", x);
    }

    private static void objectsAreApart() {
        StackScheduler x = Check.program(StackScheduler.PRINT, 0, 0, 0);
        x.put(0, 7);
        x.run();
        beginning("beside another", new StackScheduler());
        Check.variables("the other", x, 7, 0, 0, 0, 0, 0);
        Check.outputs("the other", x, 7);
    }
}
