/** Promises 1, 5, 7 and 10: the boundary cases of a new object, put, variable and clear, a method for each sentence. */
final class EdgesOfObjectTest {
    private static final int MIN = Integer.MIN_VALUE;
    private static final int MAX = Integer.MAX_VALUE;
    private static final int[] OUTSIDE = {MIN, MIN + 5, -256, -6, -2, -1, 6, 7, 63, 64, 255, 256, 261, 65536, MAX - 1, MAX};

    public static void main(String[] args) {
        newObject();
        putOutside();
        putInside();
        variableInside();
        variableOutside();
        clearOfNew();
        clearOfFull();
        clearOfUnsound();
        clearOfPutAlone();
        clearBetweenRuns();
        Check.finish();
    }

    private static StackScheduler withVariables() {
        StackScheduler x = new StackScheduler();
        for (int v = 0; v < 6; v++) {
            x.put(v, 50 + v);
        }
        return x;
    }

    private static void asInTheBeginning(String what, StackScheduler x) {
        Check.variables(what, x, 0, 0, 0, 0, 0, 0);
        Check.due(what + ": printed()", x.printed(), 0);
        for (int k = -1; k <= 64; k++) {
            Check.due(what + ": output(" + k + ")", x.output(k), 0);
        }
        Check.due(what + ": sound()", x.sound(), true);
        Check.due(what + ": retract()", x.retract(), StackScheduler.BAD);
        Check.due(what + ": run()", x.run(), 0);
        Check.variables(what + " and run", x, 0, 0, 0, 0, 0, 0);
    }

    private static void roomForForty(String what, StackScheduler x) {
        for (int i = 1; i <= 40; i++) {
            Check.due(what + ": add", x.add(StackScheduler.PRINT, 0, 0, 0), i);
        }
        Check.due(what + ": one add more", x.add(StackScheduler.PRINT, 0, 0, 0), StackScheduler.FULL);
        Check.due(what + ": run() of forty", x.run(), 40);
        Check.due(what + ": output(39)", x.output(39), 0);
    }

    private static void newObject() {
        Check.sentence("An empty program; all variables 0, no output.");
        StackScheduler other = withVariables();
        Check.write(other, "PRINT 0; LOOP 2");
        StackScheduler x = new StackScheduler();
        asInTheBeginning("new", x);
        roomForForty("new", x);
    }

    private static void putOutside() {
        Check.sentence("v outside 0..5: refused, answers false.");
        StackScheduler x = withVariables();
        for (int v : OUTSIDE) {
            Check.due("put(" + v + ", 9)", x.put(v, 9), false);
            Check.due("put(" + v + ", 0)", x.put(v, 0), false);
        }
        Check.variables("after refused puts", x, 50, 51, 52, 53, 54, 55);
    }

    private static void putInside() {
        Check.sentence("Sets a variable. v outside 0..5: refused, answers false. Else true.");
        StackScheduler x = withVariables();
        int[] want = {50, 51, 52, 53, 54, 55};
        for (int value : new int[] {MIN, -1, 0, 1, MAX}) {
            for (int v = 0; v < 6; v++) {
                want[v] = value;
                Check.due("put(" + v + ", " + value + ")", x.put(v, value), true);
                Check.due("put(" + v + ", " + value + ") again", x.put(v, value), true);
                Check.variables("after put(" + v + ", " + value + ")", x, want);
            }
        }
    }

    private static void variableInside() {
        Check.sentence("A variable's value");
        StackScheduler x = new StackScheduler();
        int[] values = {MIN, -1, 0, 1, MAX - 1, MAX};
        for (int v = 0; v < 6; v++) {
            x.put(v, values[v]);
        }
        Check.variables("read", x, values);
        Check.variables("read again", x, values);
    }

    private static void variableOutside() {
        Check.sentence("0 for v outside 0..5.");
        StackScheduler x = withVariables();
        for (int v : OUTSIDE) {
            Check.due("variable(" + v + ")", x.variable(v), 0);
            x.put(v, 9);
            Check.due("variable(" + v + ") after a put there", x.variable(v), 0);
        }
    }

    private static void clearOfNew() {
        Check.sentence("Makes everything as in the beginning.");
        StackScheduler x = new StackScheduler();
        x.clear();
        asInTheBeginning("a new one cleared", x);
        x.clear();
        x.clear();
        asInTheBeginning("cleared twice", x);
        roomForForty("cleared", x);
    }

    private static void clearOfFull() {
        StackScheduler x = withVariables();
        Check.write(x, "LOOP 5; LOOP 5; LOOP 5");
        for (int i = 0; i < 34; i++) {
            Check.write(x, "PRINT " + i % 6);
        }
        Check.write(x, "END; END; END");
        Check.due("run() of a full program", x.run(), 4250);
        x.clear();
        asInTheBeginning("a full one cleared", x);
        roomForForty("a full one cleared", x);
    }

    private static void clearOfUnsound() {
        for (String text : new String[] {"END", "ELSE", "LOOP 2", "IFPOS 0; ELSE; ELSE", "LOOP 1; LOOP 1; LOOP 1; LOOP 1"}) {
            StackScheduler x = withVariables();
            Check.write(x, text);
            Check.due("run() of " + text, x.run(), StackScheduler.UNSOUND);
            x.clear();
            asInTheBeginning("an unsound one cleared", x);
            Check.write(x, "LOOP 2; LOOP 2; LOOP 2; PRINT 0; END; END; END");
            Check.due("run() of a sound one after it", x.run(), 8);
        }
    }

    private static void clearOfPutAlone() {
        for (int v = 0; v < 6; v++) {
            StackScheduler x = new StackScheduler();
            x.put(v, MIN);
            x.clear();
            asInTheBeginning("variable " + v + " put, then cleared", x);
        }
    }

    private static void clearBetweenRuns() {
        StackScheduler x = withVariables();
        Check.write(x, "PRINT 0; PRINT 1");
        x.run();
        x.clear();
        asInTheBeginning("cleared after a run", x);
        Check.write(x, "PRINT 5");
        Check.due("run()", x.run(), 1);
        Check.outputs("a run after clear", x, 0);
        Check.due("output(1) of before", x.output(1), 0);
    }
}
