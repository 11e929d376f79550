import java.util.Random;

/** All promises: long runs of calls, answered by the class and by the model; the seed is fixed. */
final class ModelTest {
    private static final int OBJECTS = 4000;
    private static final int CALLS = 512;

    private static final Random random = new Random(20261115L);
    private static int soundRuns = 0;
    private static int longRuns = 0;
    private static int left;
    private static StackScheduler x;
    private static Model model;

    public static void main(String[] args) {
        for (int object = 0; object < OBJECTS; object++) {
            x = new StackScheduler();
            model = new Model();
            left = CALLS;
            while (left > 0) {
                step();
            }
        }
        System.out.println(soundRuns + " sound runs, " + longRuns + " of them with more than 64 values");
        Check.due("enough sound runs", soundRuns > 10000, true);
        Check.due("enough long runs", longRuns > 1000, true);
        Check.finish();
    }

    private static void step() {
        int choice = random.nextInt(100);
        if (choice < 55) {
            add(kind(), number(), random.nextInt(8) == 0 ? wide() : number(), number());
        } else if (choice < 63) {
            retract();
        } else if (choice < 68) {
            put(number(), wide());
        } else if (choice < 76) {
            closeAndRun();
        } else if (choice < 80) {
            run();
        } else if (choice < 84) {
            sound();
        } else if (choice < 99) {
            look();
        } else {
            x.clear();
            model.clear();
            left--;
        }
    }

    private static int kind() {
        int choice = random.nextInt(100);
        if (choice < 3) {
            return random.nextInt(40) - 20;
        }
        int kind = choice < 15 ? StackScheduler.PRINT : choice < 30 ? StackScheduler.LOOP : random.nextInt(12);
        // Left to chance alone, nearly every long program would be unsound.
        boolean opens = kind == StackScheduler.IFPOS || kind == StackScheduler.LOOP;
        boolean closes = kind == StackScheduler.ELSE || kind == StackScheduler.END;
        boolean fits = !(opens && model.missingEnds() >= 3) && !(closes && model.missingEnds() <= 0);
        return fits || random.nextInt(40) == 0 ? kind : StackScheduler.PRINT;
    }

    private static int number() {
        return random.nextInt(40) == 0 ? wide() : random.nextInt(60) == 0 ? 6 : random.nextInt(6);
    }

    private static int wide() {
        return random.nextBoolean() ? random.nextInt(21) - 10 : random.nextInt();
    }

    private static void closeAndRun() {
        for (int i = 0; i < 10 && left > 0 && !model.sound(); i++) {
            if (model.missingEnds() > 0 && model.missingEnds() <= 3 && random.nextInt(4) > 0) {
                add(StackScheduler.END, 0, 0, 0);
            } else {
                retract();
            }
        }
        // After the 512th call any answer would do.
        if (left > 0) {
            run();
        }
        look();
    }

    private static void add(int kind, int a, int b, int c) {
        left--;
        String call = "add(" + kind + ", " + a + ", " + b + ", " + c + ")";
        Check.due(call, x.add(kind, a, b, c), model.add(kind, a, b, c));
    }

    private static void retract() {
        left--;
        Check.due("retract()", x.retract(), model.retract());
    }

    private static void put(int v, int value) {
        left--;
        Check.due("put(" + v + ", " + value + ")", x.put(v, value), model.put(v, value));
    }

    private static void run() {
        left--;
        int want = model.run();
        Check.due("run()", x.run(), want);
        soundRuns += want >= 0 ? 1 : 0;
        longRuns += want > 64 ? 1 : 0;
    }

    private static void sound() {
        left--;
        Check.due("sound()", x.sound(), model.sound());
    }

    private static void look() {
        for (int i = 0; i < 4 && left > 0; i++) {
            left--;
            int n = random.nextInt(10) == 0 ? wide() : random.nextInt(68);
            switch (random.nextInt(3)) {
                case 0:
                    Check.due("variable(" + n % 7 + ")", x.variable(n % 7), model.variable(n % 7));
                    break;
                case 1:
                    Check.due("printed()", x.printed(), model.printed());
                    break;
                default:
                    Check.due("output(" + n + ")", x.output(n), model.output(n));
                    break;
            }
        }
    }
}
