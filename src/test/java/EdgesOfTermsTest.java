/** The boundary cases of "What it is" and of "Terms", but for SOUND: a method for each sentence. */
final class EdgesOfTermsTest {
    private static final int MIN = Integer.MIN_VALUE;
    private static final int MAX = Integer.MAX_VALUE;
    private static final String[] COMBINING = {"ADD", "SUB", "MUL", "XOR", "LESS"};

    public static void main(String[] args) {
        all512Calls();
        firstAndLastVariable();
        arithmeticWraps();
        fortyStatements();
        setExtremes();
        copyOntoItself();
        targetIsSource();
        lessOfEqualsAndExtremes();
        printAtTheEnd();
        ifposAroundNought();
        ifposWithoutElse();
        ifposWithElse();
        elseOfTheLatestChoice();
        loopsOfNoneToFive();
        loopOfNothing();
        endOfTheLatestOpen();
        Check.finish();
    }

    private static void all512Calls() {
        Check.sentence("An object is used for at most 512 calls after it has been made");
        StackScheduler x = new StackScheduler();
        x.add(StackScheduler.ADD, 0, 0, 1);
        x.add(StackScheduler.PRINT, 0, 0, 0);
        x.put(1, 1);
        for (int call = 4; call <= 511; call++) {
            Check.due("run() as call " + call, x.run(), 1);
        }
        Check.due("output(0) as call 512", x.output(0), 508);

        StackScheduler y = new StackScheduler();
        for (int pair = 0; pair < 256; pair++) {
            Check.due("add as call " + (2 * pair + 1), y.add(StackScheduler.END, 0, 0, 0), 1);
            Check.due("retract() as call " + (2 * pair + 2), y.retract(), 0);
        }
    }

    private static void firstAndLastVariable() {
        Check.sentence("There are 6 variables, 0 to 5, all of type int");
        for (String kind : COMBINING) {
            StackScheduler x = Check.program(kind + " 0 5 4; " + kind + " 5 1 0");
            x.put(5, 3);
            x.put(4, 9);
            x.put(1, -2);
            Check.due("run()", x.run(), 0);
            int first = combined(kind, 3, 9);
            Check.variables(kind + " with 0 and 5", x, first, -2, 0, 0, 9, combined(kind, -2, first));
        }
        StackScheduler x = Check.program("COPY 0 5; PRINT 0; PRINT 5; IFPOS 5; SET 5 8; END; IFPOS 0; COPY 5 0; END");
        x.put(5, MAX);
        x.put(0, MIN);
        Check.due("run()", x.run(), 2);
        Check.outputs("0 and 5", x, MAX, MAX);
        Check.variables("0 and 5", x, MAX, 0, 0, 0, 0, MAX);
    }

    private static int combined(String kind, int b, int c) {
        switch (kind) {
            case "ADD":
                return b + c;
            case "SUB":
                return b - c;
            case "MUL":
                return b * c;
            case "XOR":
                return b ^ c;
            default:
                return b < c ? 1 : 0;
        }
    }

    private static void arithmeticWraps() {
        Check.sentence("arithmetic wraps as in Java");
        combine("ADD", MAX, 1, MIN);
        combine("ADD", 1, MAX, MIN);
        combine("ADD", MIN, -1, MAX);
        combine("ADD", MAX, MAX, -2);
        combine("ADD", MIN, MIN, 0);
        combine("ADD", MAX, MIN, -1);
        combine("SUB", MIN, 1, MAX);
        combine("SUB", MAX, -1, MIN);
        combine("SUB", 0, MIN, MIN);
        combine("SUB", MIN, MAX, 1);
        combine("SUB", MAX, MIN, -1);
        combine("MUL", MIN, -1, MIN);
        combine("MUL", -1, MIN, MIN);
        combine("MUL", MAX, MAX, 1);
        combine("MUL", MIN, MIN, 0);
        combine("MUL", MAX, 2, -2);
        combine("MUL", 65536, 65536, 0);
        combine("MUL", 46341, 46341, -2147479015);
        combine("XOR", MIN, MAX, -1);
        combine("XOR", MIN, -1, MAX);
    }

    private static void combine(String kind, int b, int c, int want) {
        StackScheduler x = Check.program(kind + " 2 0 1; PRINT 2");
        x.put(0, b);
        x.put(1, c);
        Check.due("run()", x.run(), 1);
        String what = kind + " of " + b + " and " + c;
        Check.variables(what, x, b, c, want, 0, 0, 0);
        Check.outputs(what, x, want);
    }

    private static void fortyStatements() {
        Check.sentence("A program is a list of up to 40 statements, numbered from 0, fed one a call.");
        StackScheduler x = Check.program("PRINT 0");
        for (int place = 1; place <= 38; place++) {
            Check.write(x, "SET 0 " + place);
        }
        Check.write(x, "PRINT 0");
        x.put(0, 77);
        Check.due("run()", x.run(), 2);
        Check.outputs("statement 0 is the first and statement 39 the last", x, 77, 38);
    }

    private static void setExtremes() {
        Check.sentence("variable a becomes the number b");
        for (int number : new int[] {MIN, -1, 0, 5, 6, MAX}) {
            StackScheduler x = Check.program("SET 0 " + number + "; SET 5 " + number);
            for (int v = 0; v < 6; v++) {
                x.put(v, 30 + v);
            }
            Check.due("run()", x.run(), 0);
            Check.variables("SET to " + number, x, number, 31, 32, 33, 34, number);
        }
    }

    private static void copyOntoItself() {
        Check.sentence("variable a becomes variable b");
        StackScheduler x = Check.program("COPY 2 2; COPY 0 5; COPY 5 3");
        x.put(2, MIN);
        x.put(3, -1);
        x.put(5, MAX);
        x.run();
        Check.variables("COPY", x, MAX, 0, MIN, -1, 0, -1);
    }

    private static void targetIsSource() {
        Check.sentence("variable a becomes variable b + variable c");
        for (String kind : COMBINING) {
            StackScheduler x = Check.program(kind + " 0 0 1; " + kind + " 2 1 2; " + kind + " 3 3 3");
            x.put(0, 7);
            x.put(1, 10);
            x.put(2, 4);
            x.put(3, 6);
            x.run();
            int[] want = {combined(kind, 7, 10), 10, combined(kind, 10, 4), combined(kind, 6, 6), 0, 0};
            Check.variables(kind + " where a is b, c, or both", x, want);
        }
    }

    private static void lessOfEqualsAndExtremes() {
        Check.sentence("variable a becomes 1 if variable b < variable c (signed), else 0");
        combine("LESS", 0, 0, 0);
        combine("LESS", MAX, MAX, 0);
        combine("LESS", MIN, MIN, 0);
        combine("LESS", 4, 5, 1);
        combine("LESS", 5, 4, 0);
        combine("LESS", -1, 0, 1);
        combine("LESS", 0, -1, 0);
        combine("LESS", MIN, MAX, 1);
        combine("LESS", MAX, MIN, 0);
        combine("LESS", MIN, 1, 1);
        combine("LESS", 1, MIN, 0);
        StackScheduler x = Check.program("LESS 3 3 3");
        x.put(3, 12);
        x.run();
        Check.due("a variable less than itself", x.variable(3), 0);
    }

    private static void printAtTheEnd() {
        Check.sentence("adds the value of variable a to the end of the output");
        StackScheduler x = Check.program("PRINT 5; SET 5 2; PRINT 5; SET 5 3; PRINT 0; PRINT 5");
        x.put(5, MIN);
        x.put(0, -1);
        Check.due("run()", x.run(), 4);
        Check.outputs("in order, each as it was then", x, MIN, 2, -1, 3);
    }

    private static void ifposAroundNought() {
        Check.sentence("begins a choice: if variable a > 0");
        for (int value : new int[] {MIN, -2, -1, 0, 1, 2, MAX}) {
            StackScheduler x = Check.program("IFPOS 4; SET 0 1; ELSE; SET 0 2; END");
            x.put(4, value);
            x.run();
            Check.variables("IFPOS of " + value, x, value > 0 ? 1 : 2, 0, 0, 0, value, 0);
        }
    }

    private static void ifposWithoutElse() {
        Check.sentence("or to its END if it has no ELSE");
        // The choice inside has an ELSE and an END of its own: neither is the outer one's.
        String text = "IFPOS 0; PRINT 1; IFPOS 2; PRINT 3; ELSE; PRINT 4; END; PRINT 5; END; PRINT 0";
        StackScheduler x = counted(text);
        x.put(0, 0);
        Check.due("run() on 0", x.run(), 1);
        Check.outputs("all left out up to its own END", x, 0);
        x.put(0, 1);
        x.run();
        Check.outputs("the inner choice's first part", x, 11, 13, 15, 1);
        x.put(2, -1);
        x.run();
        Check.outputs("the inner choice's second part", x, 11, 14, 15, 1);
        StackScheduler empty = counted("IFPOS 0; END; PRINT 1");
        empty.run();
        Check.outputs("nothing in a choice that is taken", empty, 11);
        empty.put(0, 0);
        empty.run();
        Check.outputs("nothing in a choice that is left out", empty, 11);
    }

    private static StackScheduler counted(String text) {
        StackScheduler x = Check.program(text);
        for (int v = 0; v < 6; v++) {
            x.put(v, 10 + v);
        }
        return x;
    }

    private static void ifposWithElse() {
        Check.sentence("those between its ELSE and its END, if it has an ELSE");
        StackScheduler x = counted("IFPOS 0; ELSE; END; IFPOS 0; ELSE; PRINT 1; END; IFPOS 0; PRINT 2; ELSE; END; PRINT 3");
        x.run();
        Check.outputs("empty parts on a value above 0", x, 12, 13);
        x.put(0, 0);
        x.run();
        Check.outputs("empty parts on 0", x, 11, 13);
        StackScheduler y = counted("IFPOS 0; SET 0 0; PRINT 1; ELSE; SET 0 1; PRINT 2; END");
        y.run();
        Check.outputs("the first part alone, though it makes the variable 0", y, 11);
        y.run();
        Check.outputs("the second part alone, though it makes the variable 1", y, 12);
        y.run();
        Check.outputs("the first part again", y, 11);
    }

    private static void elseOfTheLatestChoice() {
        Check.sentence("divides the choice that is the latest thing open");
        StackScheduler x = counted("IFPOS 0; IFPOS 1; PRINT 2; ELSE; PRINT 3; END; END; PRINT 4");
        x.put(0, 0);
        x.run();
        Check.outputs("the ELSE is not the outer choice's", x, 14);
        x.put(0, 1);
        x.put(1, 0);
        x.run();
        Check.outputs("the ELSE is the inner choice's", x, 13, 14);
        StackScheduler y = counted("IFPOS 0; IFPOS 1; PRINT 2; END; LOOP 2; PRINT 5; END; ELSE; PRINT 3; END; PRINT 4");
        y.put(1, 0);
        y.run();
        Check.outputs("what is closed has no part in it", y, 15, 15, 14);
        y.put(0, 0);
        y.run();
        Check.outputs("the outer choice's second part", y, 13, 14);
    }

    private static void loopsOfNoneToFive() {
        Check.sentence("begins a loop: the statements up to its END are passed a times (a from 0 to 5)");
        for (int times = 0; times <= 5; times++) {
            StackScheduler x = counted("LOOP " + times + "; ADD 0 0 1; PRINT 0; END; PRINT 2");
            x.put(times, 3);
            x.put(0, 0);
            x.put(1, 1);
            x.put(2, 99);
            Check.due("run() of LOOP " + times, x.run(), times + 1);
            Check.due("variable(0) of LOOP " + times, x.variable(0), times);
            Check.due("what stands after LOOP " + times, x.output(times), 99);
        }
        StackScheduler x = counted("LOOP 0; LOOP 5; PRINT 0; END; IFPOS 0; PRINT 1; ELSE; PRINT 2; END; END; PRINT 3");
        Check.due("run() of what is inside LOOP 0", x.run(), 1);
        Check.outputs("LOOP 0 leaves all out, up to its own END", x, 13);
        StackScheduler y = counted("LOOP 5; LOOP 5; LOOP 5; PRINT 0; END; END; END");
        Check.due("run() of the deepest loops", y.run(), 125);
        StackScheduler z = counted("LOOP 2; LOOP 0; PRINT 0; END; LOOP 1; PRINT 1; END; LOOP 3; PRINT 2; END; END");
        Check.due("run() of loops begun anew", z.run(), 8);
        Check.outputs("loops begun anew", z, 11, 12, 12, 12, 11, 12, 12, 12);
    }

    private static void loopOfNothing() {
        Check.sentence("the statements up to its END are passed a times");
        String text = "LOOP 5; END; PRINT 1; LOOP 0; END; PRINT 2; LOOP 3; LOOP 4; LOOP 5; END; END; END; PRINT 5";
        StackScheduler x = counted(text);
        Check.due("run() of loops with nothing in them", x.run(), 3);
        Check.outputs("loops with nothing in them", x, 11, 12, 15);
    }

    private static void endOfTheLatestOpen() {
        Check.sentence("closes the latest open choice or loop");
        StackScheduler x = counted("LOOP 2; IFPOS 0; PRINT 1; END; PRINT 2; END; PRINT 3");
        x.put(0, 0);
        x.run();
        Check.outputs("the first END is the choice's", x, 12, 12, 13);
        StackScheduler y = counted("IFPOS 0; LOOP 2; PRINT 1; END; PRINT 2; END; PRINT 3");
        y.run();
        Check.outputs("the first END is the loop's", y, 11, 11, 12, 13);
        y.put(0, 0);
        y.run();
        Check.outputs("the second END is the choice's", y, 13);
        StackScheduler z = counted("LOOP 3; LOOP 2; PRINT 1; END; PRINT 2; END");
        z.run();
        Check.outputs("the inner loop's, then the outer's", z, 11, 11, 12, 11, 11, 12, 11, 11, 12);
    }
}
