import java.util.function.ToIntFunction;

/** Promise 11: each refused call, in each of several states, leaves all that can be asked as it was. */
final class EdgesOfRefusalTest {
    private static final int MIN = Integer.MIN_VALUE;
    private static final int MAX = Integer.MAX_VALUE;

    public static void main(String[] args) {
        Check.sentence("a call that is refused (by a code below 0 that is named, or by false) changes nothing");
        String[] sound = {"PRINT 0", "SET 1 5; PRINT 1; LOOP 3; ADD 2 2 1; PRINT 2; END", nearlyFull()};
        for (String text : sound) {
            everyBadAdd(text);
            everyBadPut(text);
        }
        fullAdds();
        retractOfNothing();
        unsoundRuns();
        readsOutside();
        Check.finish();
    }

    /** 38 statements: room for two more, and more values printed than are kept. */
    private static String nearlyFull() {
        return "LOOP 5; LOOP 4; IFPOS 0" + "; PRINT 0; ADD 1 1 0".repeat(15) + "; ELSE; SUB 0 0 1; END; END; END";
    }

    private static StackScheduler prepared(String text) {
        StackScheduler x = new StackScheduler();
        for (int v = 0; v < 6; v++) {
            x.put(v, 3 * v + 1);
        }
        if (!text.isEmpty()) {
            Check.write(x, text);
        }
        x.run();
        x.put(3, -40);
        return x;
    }

    /** One of two equal objects has the call refused; after that both must answer alike. */
    private static void refused(String what, String text, int code, ToIntFunction<StackScheduler> call) {
        StackScheduler x = prepared(text);
        StackScheduler y = prepared(text);
        Check.due(what, call.applyAsInt(x), code);
        Check.due(what + " again", call.applyAsInt(x), code);
        alike(what, x, y);
    }

    private static void alike(String what, StackScheduler x, StackScheduler y) {
        answersAlike("after " + what, x, y);
        for (int v = 0; v < 6; v++) {
            x.put(v, 7 - 2 * v);
            y.put(v, 7 - 2 * v);
        }
        Check.due("run() after " + what, x.run(), y.run());
        answersAlike("run after " + what, x, y);
        int left = 1;
        while (left > 0) {
            left = y.retract();
            Check.due("retract() after " + what, x.retract(), left);
            Check.due("run() of " + left + " after " + what, x.run(), y.run());
            Check.due("variable(1) of " + left + " after " + what, x.variable(1), y.variable(1));
        }
        Check.due("the last retract() after " + what, x.retract(), StackScheduler.BAD);
    }

    private static void answersAlike(String what, StackScheduler x, StackScheduler y) {
        for (int v = 0; v < 6; v++) {
            Check.due("variable(" + v + ") " + what, x.variable(v), y.variable(v));
        }
        Check.due("printed() " + what, x.printed(), y.printed());
        for (int k = 0; k <= 64; k++) {
            Check.due("output(" + k + ") " + what, x.output(k), y.output(k));
        }
        Check.due("sound() " + what, x.sound(), y.sound());
    }

    private static void badAdd(String text, int kind, int a, int b, int c) {
        String call = "add(" + kind + ", " + a + ", " + b + ", " + c + ")";
        refused(call, text, StackScheduler.BAD, x -> x.add(kind, a, b, c));
    }

    private static void everyBadAdd(String text) {
        for (int kind : new int[] {MIN, -1, 12, MAX}) {
            badAdd(text, kind, 0, 0, 0);
        }
        for (int bad : new int[] {MIN, -1, 6, MAX}) {
            for (int kind = StackScheduler.SET; kind <= StackScheduler.LOOP; kind++) {
                if (kind != StackScheduler.ELSE) {
                    badAdd(text, kind, bad, 0, 0);
                }
                if (kind >= StackScheduler.COPY && kind <= StackScheduler.LESS) {
                    badAdd(text, kind, 0, bad, 0);
                }
                if (kind >= StackScheduler.ADD && kind <= StackScheduler.LESS) {
                    badAdd(text, kind, 0, 0, bad);
                }
            }
        }
    }

    private static void everyBadPut(String text) {
        for (int v : new int[] {MIN, -6, -1, 6, 7, 256, MAX}) {
            refused("put(" + v + ", 9)", text, 0, x -> x.put(v, 9) ? 1 : 0);
        }
    }

    private static void fullAdds() {
        String full = nearlyFull() + "; PRINT 4; SUB 2 2 4";
        for (int kind = -1; kind <= 12; kind++) {
            int k = kind;
            refused("add(" + k + ", 0, 0, 0) when full", full, StackScheduler.FULL, x -> x.add(k, 0, 0, 0));
            refused("add(" + k + ", 6, 6, 6) when full", full, StackScheduler.FULL, x -> x.add(k, 6, 6, 6));
        }
    }

    private static void retractOfNothing() {
        refused("retract()", "", StackScheduler.BAD, x -> x.retract());
        StackScheduler x = Check.program("PRINT 2");
        x.put(2, 8);
        x.run();
        x.retract();
        Check.due("retract() of nothing", x.retract(), StackScheduler.BAD);
        Check.outputs("after a refused retract()", x, 8);
        Check.variables("after a refused retract()", x, 0, 0, 8, 0, 0, 0);
        Check.due("add after it", x.add(StackScheduler.PRINT, 0, 0, 0), 1);
    }

    private static void unsoundRuns() {
        String[] faults = {"END", "ELSE", "LOOP 2", "IFPOS 0", "LOOP 1; ELSE; END", "IFPOS 0; ELSE; ELSE; END"};
        for (String fault : faults) {
            StackScheduler x = prepared("PRINT 0; ADD 0 0 1; PRINT 0");
            StackScheduler y = prepared("PRINT 0; ADD 0 0 1; PRINT 0");
            Check.write(x, fault);
            Check.write(y, fault);
            Check.due("run() with " + fault, x.run(), StackScheduler.UNSOUND);
            Check.due("run() again with " + fault, x.run(), StackScheduler.UNSOUND);
            alike("run() with " + fault, x, y);
        }
    }

    /** An answer of 0 is no refusal, but reading must change nothing either. */
    private static void readsOutside() {
        for (int n : new int[] {MIN, -1, 6, 64, MAX}) {
            refused("variable(" + n + ")", nearlyFull(), 0, x -> x.variable(n));
        }
        for (int n : new int[] {MIN, -1, 64, MAX}) {
            refused("output(" + n + ")", nearlyFull(), 0, x -> x.output(n));
        }
    }
}
