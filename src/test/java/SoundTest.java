/** Promise 4: sound, and with it that run refuses just the unsound programs. */
final class SoundTest {
    public static void main(String[] args) {
        // i: IFPOS, e: ELSE, l: LOOP, n: END, p: PRINT
        String[] sound = {
            "", "p", "in", "ln", "ien", "iepn", "ipen", "ipepn", "inin", "lnln", "ienien",
            "iiinnn", "lllnnn", "ilinnn", "iiienenen", "ieieiennn", "lienn", "ilnen", "ielnn",
            "iinen", "ieinn", "lliennn", "iiinninn", "lnlnlnlnln", "illnnellnnn", "plplplpnpnpnp",
        };
        String[] unsound = {
            "n", "pn", "e", "pep", "i", "l", "ie", "ip", "inn", "lnn", "ienn", "nin", "ni", "nl",
            "len", "lpepn", "ilenn", "ieen", "iepepn", "ieinen", "ieeen", "inen", "iiiennenen", "lnen", "ine",
            "iiiinnnn", "llllnnnn", "illinnnn", "iiilnnnn", "ieieieinnnn", "iiineinnin",
            "iinni", "lln", "iiinn", "lllln", "liennen", "llliennnn", "iiinnnniii",
        };
        for (String text : sound) {
            judge(text, true);
        }
        for (String text : unsound) {
            judge(text, false);
        }
        soundFollowsEveryEdit();
        insideWhatIsNeverPassed();
        askingChangesNothing();
        fullProgram();
        Check.finish();
    }

    private static StackScheduler program(String text) {
        StackScheduler x = new StackScheduler();
        for (int i = 0; i < text.length(); i++) {
            x.add(kind(text.charAt(i)), 1, 0, 0);
        }
        return x;
    }

    private static int kind(char letter) {
        switch (letter) {
            case 'i':
                return StackScheduler.IFPOS;
            case 'e':
                return StackScheduler.ELSE;
            case 'l':
                return StackScheduler.LOOP;
            case 'n':
                return StackScheduler.END;
            default:
                return StackScheduler.PRINT;
        }
    }

    private static void judge(String text, boolean want) {
        StackScheduler x = program(text);
        Check.due("sound() of '" + text + "'", x.sound(), want);
        Check.due("sound() again of '" + text + "'", x.sound(), want);
        Check.due("run() of '" + text + "' is refused", x.run() == StackScheduler.UNSOUND, !want);
        Check.due("sound() after run() of '" + text + "'", x.sound(), want);
    }

    private static void soundFollowsEveryEdit() {
        String text = "liepnn";
        StackScheduler x = new StackScheduler();
        Check.due("empty", x.sound(), true);
        for (int i = 0; i < text.length(); i++) {
            x.add(kind(text.charAt(i)), 1, 0, 0);
            Check.due("after " + (i + 1), x.sound(), i == text.length() - 1);
        }
        x.add(StackScheduler.END, 0, 0, 0);
        Check.due("one END too many", x.sound(), false);
        x.retract();
        Check.due("taken away", x.sound(), true);
        x.retract();
        Check.due("END taken away", x.sound(), false);
    }

    private static void insideWhatIsNeverPassed() {
        StackScheduler x = Check.program(
            StackScheduler.LOOP, 0, 0, 0,
            StackScheduler.ELSE, 0, 0, 0,
            StackScheduler.END, 0, 0, 0);
        Check.due("an ELSE in a loop of 0", x.sound(), false);
    }

    private static void askingChangesNothing() {
        StackScheduler x = program("pin");
        x.put(1, 8);
        x.run();
        x.sound();
        x.add(StackScheduler.END, 0, 0, 0);
        x.sound();
        Check.variables("asked", x, 0, 8, 0, 0, 0, 0);
        Check.outputs("asked", x, 8);
        Check.due("retract()", x.retract(), 3);
    }

    private static void fullProgram() {
        judge("in".repeat(20), true);
        judge("in".repeat(19) + "li", false);
        judge("lll" + "p".repeat(34) + "nnn", true);
        judge("p".repeat(39) + "n", false);
        judge("p".repeat(39) + "i", false);
    }
}
