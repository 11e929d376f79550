/** Promises 5, 7 and 11: put, variable, and that a refused put changes nothing. */
final class PutAndVariableTest {
    private static final int[] OUTSIDE = {
        Integer.MIN_VALUE, -100, -6, -1, 6, 7, 12, 64, 256, 65536, Integer.MAX_VALUE,
    };

    public static void main(String[] args) {
        everyVariable();
        outside();
        putLeavesProgramAndOutput();
        Check.finish();
    }

    private static void everyVariable() {
        int[] values = {Integer.MIN_VALUE, -1, 0, 1, 1000000007, Integer.MAX_VALUE};
        for (int v = 0; v < 6; v++) {
            for (int value : values) {
                StackScheduler x = new StackScheduler();
                int[] want = {10, 11, 12, 13, 14, 15};
                for (int i = 0; i < 6; i++) {
                    x.put(i, want[i]);
                }
                want[v] = value;
                Check.due("put(" + v + ", " + value + ")", x.put(v, value), true);
                Check.variables("put(" + v + ", " + value + ")", x, want);
            }
        }
    }

    private static void outside() {
        StackScheduler x = new StackScheduler();
        for (int i = 0; i < 6; i++) {
            x.put(i, 10 + i);
        }
        for (int v : OUTSIDE) {
            Check.due("put(" + v + ", 99)", x.put(v, 99), false);
            Check.due("variable(" + v + ")", x.variable(v), 0);
        }
        Check.variables("after refused puts", x, 10, 11, 12, 13, 14, 15);
        Check.outputs("after refused puts", x);
        Check.due("retract()", x.retract(), StackScheduler.BAD);
    }

    private static void putLeavesProgramAndOutput() {
        StackScheduler x = Check.program(StackScheduler.PRINT, 2, 0, 0);
        x.put(2, 5);
        x.run();
        x.put(2, 6);
        x.put(6, 7);
        Check.outputs("put after run", x, 5);
        Check.due("run()", x.run(), 1);
        Check.outputs("run after put", x, 6);
        Check.variables("reading", x, 0, 0, 6, 0, 0, 0);
        Check.variables("reading again", x, 0, 0, 6, 0, 0, 0);
    }
}
