/** Promises 6, 8 and 9: the boundary cases of run, printed and output, a method for each sentence. */
final class EdgesOfRunTest {
    private static final int MIN = Integer.MIN_VALUE;
    private static final int MAX = Integer.MAX_VALUE;

    public static void main(String[] args) {
        unsoundIsRefused();
        outputBecomesEmpty();
        fromFirstToEnd();
        variablesAsTheyAre();
        answersTheNumberPrinted();
        printedFollowsRunsAlone();
        valuesFromNought();
        firstSixtyFourAreKept();
        outsideThePrinted();
        sixtyFourOrMore();
        Check.finish();
    }

    /** Prints 1, 2, 3, ... up to the given number, 50 at least. */
    private static StackScheduler counting(int values) {
        StackScheduler x = Check.program("SET 1 1; LOOP 5; LOOP 5; LOOP 2; ADD 0 0 1; PRINT 0; END; END; END");
        int left = values - 50;
        while (left > 0) {
            int passes = Math.min(left, 5);
            Check.write(x, "LOOP " + passes + "; ADD 0 0 1; PRINT 0; END");
            left -= passes;
        }
        return x;
    }

    private static void unsoundIsRefused() {
        Check.sentence("UNSOUND, with nothing changed, if the program is not sound.");
        String[] faults = {"END", "ELSE", "IFPOS 0", "LOOP 0", "LOOP 0; ELSE; END", "IFPOS 0; ELSE; ELSE; END"};
        for (String fault : faults) {
            StackScheduler x = Check.program("SET 0 4; PRINT 0; ADD 1 1 0; PRINT 1");
            Check.due("run() before " + fault, x.run(), 2);
            x.put(0, 70);
            Check.write(x, fault);
            for (int again = 0; again < 3; again++) {
                Check.due("run() with " + fault, x.run(), StackScheduler.UNSOUND);
                Check.variables("refused by " + fault, x, 70, 4, 0, 0, 0, 0);
                Check.outputs("refused by " + fault, x, 4, 4);
            }
            int statements = 4 + fault.split(";").length;
            Check.due("retract() with " + fault, x.retract(), statements - 1);
        }
        StackScheduler deep = Check.program("PRINT 0; LOOP 1; LOOP 1; LOOP 1; IFPOS 0; END; END; END; END");
        Check.due("run() with four open", deep.run(), StackScheduler.UNSOUND);
        Check.outputs("four open", deep);
    }

    private static void outputBecomesEmpty() {
        Check.sentence("Else the output becomes empty");
        StackScheduler x = Check.program("PRINT 0; PRINT 0");
        x.put(0, 6);
        x.run();
        Check.due("run() again", x.run(), 2);
        Check.outputs("not 4 values", x, 6, 6);
        x.retract();
        Check.due("run() of fewer", x.run(), 1);
        Check.outputs("fewer", x, 6);
        Check.due("output(1) of before", x.output(1), 0);
        x.retract();
        Check.due("run() of an empty program", x.run(), 0);
        Check.outputs("empty", x);
        Check.due("output(0) of before", x.output(0), 0);
    }

    private static void fromFirstToEnd() {
        Check.sentence("the program is passed from its first statement to its end");
        StackScheduler none = new StackScheduler();
        none.put(3, 3);
        Check.due("run() of an empty program", none.run(), 0);
        Check.variables("an empty program", none, 0, 0, 0, 3, 0, 0);
        StackScheduler one = Check.program("SET 5 1");
        Check.due("run() of one statement", one.run(), 0);
        Check.variables("one statement", one, 0, 0, 0, 0, 0, 1);
        StackScheduler most = Check.program("LOOP 5; LOOP 5; LOOP 5");
        for (int i = 0; i < 34; i++) {
            Check.write(most, "ADD 0 0 1");
        }
        Check.write(most, "END; END; END");
        most.put(1, 1);
        Check.due("run() of the longest", most.run(), 0);
        Check.variables("the longest", most, 4250, 1, 0, 0, 0, 0);
        Check.due("run() of the longest again", most.run(), 0);
        Check.variables("the longest again", most, 8500, 1, 0, 0, 0, 0);
    }

    private static void variablesAsTheyAre() {
        Check.sentence("on the variables as they are");
        StackScheduler x = Check.program("ADD 0 0 1; ADD 5 5 1");
        x.put(0, MAX - 1);
        x.put(1, 1);
        x.put(5, -1);
        x.run();
        Check.variables("first run", x, MAX, 1, 0, 0, 0, 0);
        x.run();
        Check.variables("second run goes on", x, MIN, 1, 0, 0, 0, 1);
        x.put(0, 0);
        x.run();
        Check.variables("after a put", x, 1, 1, 0, 0, 0, 2);
    }

    private static void answersTheNumberPrinted() {
        Check.sentence("answers the number of values printed");
        Check.due("run() of none", Check.program("SET 0 1").run(), 0);
        Check.due("run() of one left out", Check.program("IFPOS 0; PRINT 0; END").run(), 0);
        Check.due("run() of one passed no times", Check.program("LOOP 0; PRINT 0; END").run(), 0);
        Check.due("run() of one", Check.program("PRINT 0").run(), 1);
        for (int values = 62; values <= 66; values++) {
            Check.due("run() of " + values, counting(values).run(), values);
        }
        StackScheduler most = mostPrinting();
        Check.due("run() of the most", most.run(), 4250);
        Check.due("run() of the most again", most.run(), 4250);
    }

    private static StackScheduler mostPrinting() {
        StackScheduler x = Check.program("LOOP 5; LOOP 5; LOOP 5");
        for (int i = 0; i < 34; i++) {
            Check.write(x, "PRINT 0");
        }
        Check.write(x, "END; END; END");
        x.put(0, 3);
        return x;
    }

    private static void printedFollowsRunsAlone() {
        Check.sentence("The number of values in the output.");
        StackScheduler x = new StackScheduler();
        Check.due("printed() of a new object", x.printed(), 0);
        Check.write(x, "PRINT 0; PRINT 0; PRINT 0");
        Check.due("printed() before a run", x.printed(), 0);
        x.run();
        Check.due("printed() after a run", x.printed(), 3);
        Check.due("printed() asked again", x.printed(), 3);
        x.retract();
        x.put(0, 1);
        x.sound();
        Check.due("printed() after retract and put", x.printed(), 3);
        Check.write(x, "END");
        x.run();
        Check.due("printed() after a refused run", x.printed(), 3);
        x.clear();
        Check.due("printed() after clear", x.printed(), 0);
        for (int values = 62; values <= 66; values++) {
            StackScheduler y = counting(values);
            y.run();
            Check.due("printed() of " + values, y.printed(), values);
        }
        StackScheduler most = mostPrinting();
        most.run();
        Check.due("printed() of the most", most.printed(), 4250);
    }

    private static void valuesFromNought() {
        Check.sentence("Value k of the output, from 0");
        StackScheduler x = Check.program("PRINT 0; PRINT 1; PRINT 2; PRINT 3");
        int[] values = {MIN, -1, 0, MAX};
        for (int v = 0; v < 4; v++) {
            x.put(v, values[v]);
        }
        x.run();
        Check.outputs("four values", x, values);
        x.put(0, 5);
        x.retract();
        Check.outputs("put and retract leave them", x, values);
    }

    private static void firstSixtyFourAreKept() {
        Check.sentence("only the first 64 values are kept");
        for (int values : new int[] {63, 64, 65, 66, 75}) {
            StackScheduler x = counting(values);
            x.run();
            for (int k = 0; k < Math.min(values, 64); k++) {
                Check.due("output(" + k + ") of " + values, x.output(k), k + 1);
            }
            x.put(0, 1000);
            x.run();
            for (int k = 0; k < Math.min(values, 64); k++) {
                Check.due("output(" + k + ") of the next " + values, x.output(k), k + 1001);
            }
        }
    }

    private static void outsideThePrinted() {
        Check.sentence("0 for k outside 0 .. printed() - 1");
        StackScheduler x = Check.program("PRINT 0; PRINT 0; PRINT 0; PRINT 0");
        x.put(0, 8);
        Check.due("output(0) before a run", x.output(0), 0);
        // Each run prints one fewer: the values of the run before must not show.
        for (int values = 4; values >= 0; values--) {
            x.run();
            Check.due("output(last) of " + values, x.output(values - 1), values > 0 ? 8 : 0);
            for (int k : new int[] {MIN, MIN + 1, -256, -64, -2, -1, values, values + 1, 62, 63, 256, MAX - 1, MAX}) {
                Check.due("output(" + k + ") of " + values, x.output(k), 0);
            }
            x.retract();
        }
        StackScheduler y = counting(63);
        y.run();
        Check.due("output(62) of 63", y.output(62), 63);
        Check.due("output(63) of 63", y.output(63), 0);
    }

    private static void sixtyFourOrMore() {
        Check.sentence("for k of 64 or more");
        StackScheduler most = mostPrinting();
        most.run();
        Check.due("output(0) of the most", most.output(0), 3);
        Check.due("output(63) of the most", most.output(63), 3);
        for (int k : new int[] {64, 65, 127, 128, 256, 319, 4249, 4250, 65536, MAX}) {
            Check.due("output(" + k + ") of the most", most.output(k), 0);
        }
        StackScheduler x = counting(65);
        x.run();
        Check.due("output(63) of 65", x.output(63), 64);
        Check.due("output(64) of 65", x.output(64), 0);
    }
}
