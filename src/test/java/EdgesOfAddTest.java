/** Promises 2 and 3: the boundary cases of add and retract, a method for each sentence. */
final class EdgesOfAddTest {
    private static final int MIN = Integer.MIN_VALUE;
    private static final int MAX = Integer.MAX_VALUE;
    // 256 and 65536 and their neighbours: numbers that look small once cut to a byte or a short.
    private static final int[] OUTSIDE = {MIN, MIN + 1, -256, -6, -2, -1, 6, 7, 11, 255, 256, 261, 65536, MAX - 1, MAX};

    public static void main(String[] args) {
        fullAtForty();
        fullBeforeBadKind();
        fullBeforeBadNumbers();
        kindTooSmallOrTooLarge();
        targetAlone();
        copyNumbers();
        combiningNumbers();
        loopNumber();
        otherNumbersPlayNoPart();
        answersTheNewNumber();
        retractAnswersTheNewNumber();
        retractTakesTheLast();
        retractOfNothing();
        Check.finish();
    }

    private static StackScheduler filled(int statements) {
        StackScheduler x = new StackScheduler();
        for (int i = 0; i < statements; i++) {
            x.add(StackScheduler.PRINT, 0, 0, 0);
        }
        return x;
    }

    private static void taken(int kind, int a, int b, int c) {
        answered(kind, a, b, c, 1);
    }

    private static void refused(int kind, int a, int b, int c) {
        answered(kind, a, b, c, StackScheduler.BAD);
    }

    private static void answered(int kind, int a, int b, int c, int want) {
        StackScheduler x = new StackScheduler();
        String call = "add(" + kind + ", " + a + ", " + b + ", " + c + ")";
        Check.due(call, x.add(kind, a, b, c), want);
        Check.due("retract() after " + call, x.retract(), want == 1 ? 0 : StackScheduler.BAD);
    }

    private static void fullAtForty() {
        Check.sentence("40 statements are there: FULL.");
        for (int kind = 0; kind <= 11; kind++) {
            StackScheduler x = filled(39);
            Check.due("kind " + kind + " with 39 statements", x.add(kind, 0, 0, 0), 40);
            Check.due("kind " + kind + " with 40 statements", x.add(kind, 0, 0, 0), StackScheduler.FULL);
            Check.due("kind " + kind + " once more", x.add(kind, 0, 0, 0), StackScheduler.FULL);
            Check.due("retract()", x.retract(), 39);
            Check.due("kind " + kind + " with room again", x.add(kind, 5, 5, 5), 40);
            Check.due("kind " + kind + " when full again", x.add(kind, 5, 5, 5), StackScheduler.FULL);
        }
    }

    private static void fullBeforeBadKind() {
        Check.sentence("Tested in this order: 40 statements are there: FULL. kind outside 0..11: BAD.");
        StackScheduler full = filled(40);
        StackScheduler nearly = filled(39);
        for (int kind : new int[] {MIN, -3, -2, -1, 12, 13, MAX}) {
            Check.due("kind " + kind + " when full", full.add(kind, 0, 0, 0), StackScheduler.FULL);
            Check.due("kind " + kind + " with 39", nearly.add(kind, 0, 0, 0), StackScheduler.BAD);
        }
        Check.due("retract() when full", full.retract(), 39);
        Check.due("retract() with 39", nearly.retract(), 38);
    }

    private static void fullBeforeBadNumbers() {
        Check.sentence("Tested in this order: 40 statements are there: FULL.");
        StackScheduler full = filled(40);
        StackScheduler nearly = filled(39);
        for (int kind = 0; kind <= 11; kind++) {
            if (kind != StackScheduler.ELSE && kind != StackScheduler.END) {
                Check.due("kind " + kind + " with 6 when full", full.add(kind, 6, 6, 6), StackScheduler.FULL);
                Check.due("kind " + kind + " with -1 when full", full.add(kind, -1, -1, -1), StackScheduler.FULL);
                Check.due("kind " + kind + " with 6 at 39", nearly.add(kind, 6, 6, 6), StackScheduler.BAD);
                Check.due("kind " + kind + " with -1 at 39", nearly.add(kind, -1, -1, -1), StackScheduler.BAD);
            }
        }
        Check.due("retract() when full", full.retract(), 39);
        Check.due("retract() with 39", nearly.retract(), 38);
    }

    private static void kindTooSmallOrTooLarge() {
        Check.sentence("kind outside 0..11: BAD.");
        for (int kind : new int[] {MIN, MIN + 7, -256, -3, -2, -1, 12, 13, 255, 256, 263, 65536, MAX}) {
            refused(kind, 0, 0, 0);
            refused(kind, 5, 5, 5);
            refused(kind, 6, -1, MAX);
        }
        taken(0, 0, 0, 0);
        taken(11, 0, 0, 0);
    }

    private static void targetAlone() {
        Check.sentence("SET, PRINT, IFPOS: a outside 0..5");
        for (int kind : new int[] {StackScheduler.SET, StackScheduler.PRINT, StackScheduler.IFPOS}) {
            taken(kind, 0, 0, 0);
            taken(kind, 5, 0, 0);
            for (int a : OUTSIDE) {
                refused(kind, a, 0, 0);
            }
        }
    }

    private static void copyNumbers() {
        Check.sentence("COPY: a or b outside 0..5");
        int kind = StackScheduler.COPY;
        for (int good = 0; good <= 5; good++) {
            taken(kind, good, 5 - good, 0);
            for (int bad : OUTSIDE) {
                refused(kind, bad, good, 0);
                refused(kind, good, bad, 0);
                refused(kind, bad, bad, good);
            }
        }
    }

    private static void combiningNumbers() {
        Check.sentence("ADD to LESS: a, b or c outside 0..5");
        for (int kind = StackScheduler.ADD; kind <= StackScheduler.LESS; kind++) {
            taken(kind, 0, 0, 0);
            taken(kind, 5, 5, 5);
            taken(kind, 0, 5, 0);
            for (int bad : OUTSIDE) {
                refused(kind, bad, 0, 5);
                refused(kind, 5, bad, 0);
                refused(kind, 0, 5, bad);
                refused(kind, bad, bad, bad);
            }
        }
    }

    private static void loopNumber() {
        Check.sentence("LOOP: a outside 0..5: BAD.");
        for (int a = 0; a <= 5; a++) {
            taken(StackScheduler.LOOP, a, 0, 0);
        }
        for (int a : OUTSIDE) {
            refused(StackScheduler.LOOP, a, 0, 0);
        }
    }

    private static void otherNumbersPlayNoPart() {
        Check.sentence("Numbers that a kind does not have play no part.");
        for (int n : OUTSIDE) {
            taken(StackScheduler.SET, 0, n, n);
            taken(StackScheduler.COPY, 0, 5, n);
            taken(StackScheduler.PRINT, 5, n, n);
            taken(StackScheduler.IFPOS, 5, n, n);
            taken(StackScheduler.LOOP, 5, n, n);
            taken(StackScheduler.ELSE, n, n, n);
            taken(StackScheduler.END, n, n, n);
            passedAlike(n);
        }
    }

    private static void passedAlike(int n) {
        StackScheduler x = new StackScheduler();
        x.add(StackScheduler.SET, 1, 20, n);
        x.add(StackScheduler.COPY, 2, 1, n);
        x.add(StackScheduler.LOOP, 2, n, n);
        x.add(StackScheduler.IFPOS, 0, n, n);
        x.add(StackScheduler.PRINT, 1, n, n);
        x.add(StackScheduler.ELSE, n, n, n);
        x.add(StackScheduler.SET, 0, 3, n);
        x.add(StackScheduler.PRINT, 0, n, n);
        x.add(StackScheduler.END, n, n, n);
        x.add(StackScheduler.END, n, n, n);
        Check.due("run() with " + n, x.run(), 2);
        Check.outputs("run with " + n, x, 3, 20);
        Check.variables("run with " + n, x, 3, 20, 20, 0, 0, 0);
    }

    private static void answersTheNewNumber() {
        Check.sentence("Else answers the new number of statements.");
        StackScheduler x = new StackScheduler();
        for (int i = 1; i <= 40; i++) {
            Check.due("a refused add before " + i, x.add(StackScheduler.SET, 6, 0, 0), StackScheduler.BAD);
            Check.due("add " + i, x.add(i % 12, 1, 2, 3), i);
        }
    }

    private static void retractAnswersTheNewNumber() {
        Check.sentence("Takes the last statement away; answers the new number of statements");
        StackScheduler x = filled(40);
        for (int i = 39; i >= 0; i--) {
            Check.due("retract()", x.retract(), i);
        }
        Check.due("add after all are away", x.add(StackScheduler.PRINT, 0, 0, 0), 1);
    }

    private static void retractTakesTheLast() {
        Check.sentence("Takes the last statement away");
        StackScheduler x = Check.program("PRINT 0; PRINT 1; PRINT 2");
        for (int v = 0; v < 6; v++) {
            x.put(v, 20 + v);
        }
        Check.due("retract()", x.retract(), 2);
        x.run();
        Check.outputs("the last is away", x, 20, 21);
        Check.write(x, "PRINT 5");
        x.run();
        Check.outputs("another in its place", x, 20, 21, 25);
        StackScheduler full = filled(39);
        Check.write(full, "PRINT 3");
        full.put(3, 9);
        full.retract();
        Check.due("run() after retract from a full program", full.run(), 39);
        Check.due("output(38)", full.output(38), 0);
    }

    private static void retractOfNothing() {
        Check.sentence("BAD if there was none.");
        StackScheduler x = new StackScheduler();
        Check.due("retract() of a new object", x.retract(), StackScheduler.BAD);
        Check.due("retract() once more", x.retract(), StackScheduler.BAD);
        Check.due("add", x.add(StackScheduler.PRINT, 0, 0, 0), 1);
        Check.due("retract() of the only one", x.retract(), 0);
        Check.due("retract() of none left", x.retract(), StackScheduler.BAD);
        Check.due("add", x.add(StackScheduler.PRINT, 0, 0, 0), 1);
        x.clear();
        Check.due("retract() after clear()", x.retract(), StackScheduler.BAD);
    }
}
