/** Promises 8 and 9: printed and output, with the limit of 64 kept values. */
final class OutputTest {
    public static void main(String[] args) {
        outsideTheOutput();
        aroundTheLimit();
        theMostThatCanBePrinted();
        shorterAfterLonger();
        Check.finish();
    }

    private static void outsideTheOutput() {
        StackScheduler x = Check.program(
            StackScheduler.PRINT, 0, 0, 0,
            StackScheduler.PRINT, 1, 0, 0,
            StackScheduler.PRINT, 0, 0, 0);
        x.put(0, -5);
        x.put(1, Integer.MIN_VALUE);
        Check.due("printed() before a run", x.printed(), 0);
        Check.due("output(0) before a run", x.output(0), 0);
        Check.due("run()", x.run(), 3);
        Check.outputs("three", x, -5, Integer.MIN_VALUE, -5);
        int[] outside = {Integer.MIN_VALUE, -64, -1, 3, 4, 63, 64, 65, 128, Integer.MAX_VALUE};
        for (int k : outside) {
            Check.due("output(" + k + ")", x.output(k), 0);
        }
        x.put(0, 8);
        Check.outputs("the output keeps what was printed", x, -5, Integer.MIN_VALUE, -5);
    }

    /** Prints 1, 2, 3, ... : 5 * 5 * 2 of them in loops and the rest one by one. */
    private static StackScheduler counting(int values) {
        StackScheduler x = Check.program(
            StackScheduler.SET, 0, 0, 0,
            StackScheduler.SET, 1, 1, 0,
            StackScheduler.LOOP, 5, 0, 0,
            StackScheduler.LOOP, 5, 0, 0,
            StackScheduler.LOOP, 2, 0, 0,
            StackScheduler.ADD, 0, 0, 1,
            StackScheduler.PRINT, 0, 0, 0,
            StackScheduler.END, 0, 0, 0,
            StackScheduler.END, 0, 0, 0,
            StackScheduler.END, 0, 0, 0,
            StackScheduler.SET, 0, 7777, 0);
        for (int more = 50; more < values; more++) {
            x.add(StackScheduler.PRINT, 0, 0, 0);
        }
        return x;
    }

    private static void aroundTheLimit() {
        for (int values = 62; values <= 67; values++) {
            StackScheduler x = counting(values);
            Check.due("run() of " + values, x.run(), values);
            Check.due("printed() of " + values, x.printed(), values);
            for (int k = 0; k < 50; k++) {
                Check.due("output(" + k + ") of " + values, x.output(k), k + 1);
            }
            for (int k = 50; k < 70; k++) {
                Check.due("output(" + k + ") of " + values, x.output(k), k < values && k < 64 ? 7777 : 0);
            }
        }
    }

    private static void theMostThatCanBePrinted() {
        StackScheduler x = new StackScheduler();
        for (int i = 0; i < 3; i++) {
            x.add(StackScheduler.LOOP, 5, 0, 0);
        }
        for (int i = 0; i < 34; i++) {
            x.add(StackScheduler.PRINT, i % 6, 0, 0);
        }
        for (int i = 0; i < 3; i++) {
            x.add(StackScheduler.END, 0, 0, 0);
        }
        for (int v = 0; v < 6; v++) {
            x.put(v, v + 1);
        }
        Check.due("run()", x.run(), 4250);
        Check.due("printed()", x.printed(), 4250);
        for (int k = 0; k < 64; k++) {
            Check.due("output(" + k + ")", x.output(k), k % 34 % 6 + 1);
        }
        int[] beyond = {64, 65, 127, 128, 4249, 4250, Integer.MAX_VALUE};
        for (int k : beyond) {
            Check.due("output(" + k + ")", x.output(k), 0);
        }
        Check.due("run() again", x.run(), 4250);
    }

    private static void shorterAfterLonger() {
        StackScheduler x = counting(65);
        x.run();
        x.clear();
        x.add(StackScheduler.PRINT, 3, 0, 0);
        x.put(3, 12);
        Check.due("run()", x.run(), 1);
        Check.outputs("shorter", x, 12);
        for (int k = 1; k < 66; k++) {
            Check.due("output(" + k + ") of 1", x.output(k), 0);
        }
    }
}
