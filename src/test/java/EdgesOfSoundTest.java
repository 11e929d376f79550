/** Promise 4 and the boundary cases of what SOUND means: a method for each part of the sentence. */
final class EdgesOfSoundTest {
    public static void main(String[] args) {
        emptyAndPlain();
        endWithNothingOpen();
        leftOpen();
        elseWithNothingOpen();
        elseInALoop();
        secondElse();
        threeOpenAndFour();
        fullPrograms();
        Check.finish();
    }

    /** i: IFPOS, e: ELSE, l: LOOP, n: END, p: PRINT. Asks sound() and whether run() agrees. */
    private static void judge(boolean want, String... texts) {
        for (String text : texts) {
            StackScheduler x = new StackScheduler();
            for (char letter : text.toCharArray()) {
                x.add(kind(letter), 0, 0, 0);
            }
            Check.due("sound() of '" + text + "'", x.sound(), want);
            Check.due("run() of '" + text + "' is refused", x.run() == StackScheduler.UNSOUND, !want);
            Check.due("sound() after run() of '" + text + "'", x.sound(), want);
        }
    }

    private static int kind(char letter) {
        int[] kinds = {
            StackScheduler.IFPOS, StackScheduler.ELSE, StackScheduler.LOOP, StackScheduler.END, StackScheduler.PRINT,
        };
        return kinds["ielnp".indexOf(letter)];
    }

    private static void emptyAndPlain() {
        Check.sentence("Whether the program is sound.");
        judge(true, "", "p", "pp", "in", "ln", "ien");
        StackScheduler x = new StackScheduler();
        for (int kind = StackScheduler.SET; kind <= StackScheduler.PRINT; kind++) {
            x.add(kind, 0, 0, 0);
            Check.due("sound() of plain statements up to kind " + kind, x.sound(), true);
        }
        x.add(StackScheduler.END, 0, 0, 0);
        Check.due("sound() with an END too many", x.sound(), false);
        x.retract();
        Check.due("sound() with that END taken away", x.sound(), true);
    }

    private static void endWithNothingOpen() {
        Check.sentence("every END has something open to close");
        judge(false, "n", "pn", "np", "nn", "inn", "lnn", "ienn", "lnnp", "iiinnnn");
        // As many ENDs as beginnings, but one of them too early.
        judge(false, "ni", "nl", "innl", "nin", "lnnin", "nnll");
    }

    private static void leftOpen() {
        Check.sentence("everything that is open is closed at the end");
        judge(false, "i", "l", "ie", "ip", "lp", "ini", "lnl", "iin", "lln", "lin", "ilpn", "iien", "iieen", "iiinn", "lll");
        judge(true, "iinn", "llnn", "linn", "ilnn", "iienn", "iienen");
    }

    private static void elseWithNothingOpen() {
        Check.sentence("every ELSE has a choice, not a loop, as the latest thing open");
        judge(false, "e", "pe", "ep", "ine", "lne", "iene", "een", "ein", "inen", "lnen", "nen");
    }

    private static void elseInALoop() {
        Check.sentence("a choice, not a loop, as the latest thing open");
        judge(false, "len", "lepn", "ilenn", "ielenn", "llenn", "ilennn", "ilenen", "iinlenn");
        judge(true, "lienn", "ilnen", "ielnn", "llnn", "lnien");
        StackScheduler x = Check.program("LOOP 0; ELSE; END");
        Check.due("sound() of an ELSE that would never be passed", x.sound(), false);
    }

    private static void secondElse() {
        Check.sentence("this choice has no ELSE yet");
        judge(false, "ieen", "iepen", "ieeen", "ieinen", "ieienen", "ielnen", "iieenn", "iieneen", "inieen");
        judge(true, "ienien", "ieienn", "iienen", "iienelnn", "iieneienn");
    }

    private static void threeOpenAndFour() {
        Check.sentence("at no place more than three choices and loops are open");
        String[] openings = {"i", "l", "ie"};
        for (String first : openings) {
            for (String second : openings) {
                for (String third : openings) {
                    String three = first + second + third;
                    judge(true, three + "nnn", three + "ninnn", three + "nlnnn", three + "nnllnnn");
                    judge(false, three + "innnn", three + "lnnnn", three + "nlinnnn", three + "nnlllnnnn");
                    // The fourth has no END of its own: it is neither passed over nor closed with the third.
                    judge(false, three + "i", three + "l", three + "innn", three + "lnnn", three + "iennn");
                }
            }
        }
        // Three at once, again and again: what is closed counts no more.
        judge(true, "lllnnnlllnnniiinnn", "iiinininnn", "llnlnlnlnn");
        judge(false, "llll", "iiii", "lnlnlnllllnnnn", "p".repeat(20) + "llllnnnn");
    }

    private static void fullPrograms() {
        Check.sentence("A program is SOUND iff");
        judge(true, "p".repeat(40), "in".repeat(20), "ln".repeat(20), "lll" + "p".repeat(34) + "nnn", "p".repeat(37) + "ien");
        judge(false, "p".repeat(39) + "n", "p".repeat(39) + "i", "p".repeat(39) + "l", "p".repeat(39) + "e");
        judge(false, "in".repeat(19) + "li", "ln".repeat(19) + "nl", "n" + "p".repeat(39), "i" + "p".repeat(39));
        judge(false, "llll" + "p".repeat(32) + "nnnn", "l" + "p".repeat(37) + "en");
    }
}
