/** Promises 4 and 6: every program of a few statements, none left to chance, answered by the class and by the model. */
final class SmallProgramsTest {
    // Eight statements are the fewest in which four things are open and all of them are closed.
    private static final int LONGEST_JUDGED = 8;
    private static final int[][] STRUCTURE = {
        {StackScheduler.IFPOS, 0, 0, 0}, {StackScheduler.ELSE, 0, 0, 0},
        {StackScheduler.LOOP, 2, 0, 0}, {StackScheduler.END, 0, 0, 0},
    };
    private static final int LONGEST_PASSED = 6;
    // Variable 0 goes from 1 down through 0, so that a choice inside a loop goes both ways.
    private static final int[][] STATEMENTS = {
        {StackScheduler.IFPOS, 0, 0, 0}, {StackScheduler.ELSE, 0, 0, 0},
        {StackScheduler.LOOP, 2, 0, 0}, {StackScheduler.LOOP, 0, 0, 0}, {StackScheduler.END, 0, 0, 0},
        {StackScheduler.PRINT, 0, 0, 0}, {StackScheduler.SUB, 0, 0, 1},
    };

    private static int soundPrograms = 0;

    public static void main(String[] args) {
        for (int length = 0; length <= LONGEST_JUDGED; length++) {
            all(STRUCTURE, length);
        }
        for (int length = 0; length <= LONGEST_PASSED; length++) {
            all(STATEMENTS, length);
        }
        System.out.println(soundPrograms + " of the programs are sound");
        Check.finish();
    }

    private static void all(int[][] choices, int length) {
        long programs = 1;
        for (int i = 0; i < length; i++) {
            programs *= choices.length;
        }
        for (long number = 0; number < programs; number++) {
            one(choices, length, number);
        }
    }

    /** The number, written in the base of the choices, tells the statements. */
    private static void one(int[][] choices, int length, long number) {
        StackScheduler x = new StackScheduler();
        Model model = new Model();
        StringBuilder text = new StringBuilder("after");
        long rest = number;
        for (int i = 0; i < length; i++) {
            int[] s = choices[(int) (rest % choices.length)];
            rest /= choices.length;
            text.append(" add(").append(s[0]).append(", ").append(s[1]).append(", ..)");
            Check.due(text + ": its answer", x.add(s[0], s[1], s[2], s[3]), model.add(s[0], s[1], s[2], s[3]));
        }
        for (int v = 0; v < 2; v++) {
            x.put(v, 1);
            model.put(v, 1);
        }
        boolean sound = model.sound();
        soundPrograms += sound ? 1 : 0;
        Check.due(text + " sound()", x.sound(), sound);
        Check.due(text + " run()", x.run(), model.run());
        Check.due(text + " printed()", x.printed(), model.printed());
        for (int k = 0; sound && k < model.printed(); k++) {
            Check.due(text + " output(" + k + ")", x.output(k), model.output(k));
        }
        Check.due(text + " variable(0)", x.variable(0), model.variable(0));
    }
}
