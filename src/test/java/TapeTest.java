/** Promises 1, 2 and 34: a new object, the TAPE, count. */
public final class TapeTest {
    public static void main(String[] args) {
        Checks checks = new Checks();
        newObject(checks);
        signsLeftOut(checks);
        fullTape(checks);
        takenTape(checks);
        counts(checks);
        checks.end();
    }

    private static void newObject(Checks checks) {
        GreenButtons navy = new GreenButtons();
        int[] due = {0, 0, 3, 5, 2, 0, 1, 0, 0, 0, 0, 0, 0};
        for (int what = 0; what < due.length; what++) {
            checks.same("1: new count " + what, navy.count(what), due[what]);
        }
        checks.same("1: new man", navy.man(0, 0), -2);
        checks.same("1: new post", navy.post(0, 0), -1);
        checks.isNot("1: new undo", navy.undo());
        checks.isNot("1: new mark", navy.mark(0, true));
        checks.same("1: new captain", navy.captain(), -1);
        checks.same("1: new judged", navy.judged(2), -1);
        checks.isNot("1: new stand", navy.stand(0, 0));
        checks.same("1: new fall", navy.fall(0), -1);
    }

    private static void signsLeftOut(Checks checks) {
        GreenButtons navy = new GreenButtons();
        checks.same("2: nothing", navy.feed(0, 0, 0), 0);
        checks.same("2: bytes of 255", navy.feed(-1, -1, -1), 0);
        checks.same("2: 10, 32, 126 stay; 9, 11, 31, 127, 128 go", navy.feed(0x0A207E090B1F7F80L, 0, 0), 3);
        checks.same("2: 13 and 160 go", navy.feed(0x0DA0414141414141L, 0x41L, 0x4100000000000000L), 11);
        checks.same("2: what is left out leaves no gap", Checks.ship(new GreenButtons(), "s\0e\0a\r 2;"), 0);
        GreenButtons order = new GreenButtons();
        order.feed(0x7368616465203700L, 0x3BL, 0);
        checks.same("2: the highest byte first, a ahead of b", order.ship(), 0);
        checks.same("2: shade 7 was told", order.count(2), 7);
    }

    private static void fullTape(Checks checks) {
        GreenButtons navy = new GreenButtons();
        StringBuilder blanks = new StringBuilder();
        for (int i = 0; i < 996; i++) {
            blanks.append(' ');
        }
        checks.same("2: 996", Checks.feedText(navy, blanks.toString()), 996);
        checks.same("2: 1000 at most", Checks.feedText(navy, "sea 2;"), 1000);
        checks.same("2: beyond is left out", Checks.feedText(navy, "2;"), 1000);
        checks.same("3: the end is at 1000", navy.ship(), 1 + 16 * 1000);
        checks.same("3: the tape is taken", navy.count(12), 0);
    }

    private static void takenTape(Checks checks) {
        GreenButtons navy = new GreenButtons();
        Checks.feedText(navy, "nonsense");
        checks.same("3: fault", navy.ship(), 1);
        checks.same("3: taken by a fault, too", navy.count(12), 0);
        Checks.feedText(navy, "dock;");
        checks.same("4: read", navy.voyage(), 0);
        checks.same("4: taken", navy.count(12), 0);
        checks.same("4: an empty tape is a voyage", navy.voyage(), 0);
        checks.same("4: without lines", navy.count(9), 0);
    }

    private static void counts(Checks checks) {
        GreenButtons navy = Checks.launched("man a plain green 9 hands 1;man b gold green 30 hands 2;"
            + "post p spray 2 holds 1;sea 3 0;shade 6;lemon 7;harbour 8;");
        Checks.voyage(navy, "watch;dock;suck a;");
        navy.see(0, 1, 0, false);
        navy.watch();
        navy.stand(1, 0);
        Checks.feedText(navy, "abc");
        int[] due = {2, 1, 6, 7, 8, 1, 0, 40, 1, 3, 1, 2, 3};
        for (int what = 0; what < due.length; what++) {
            checks.same("34: count " + what, navy.count(what), due[what]);
        }
        checks.same("34: -1", navy.count(-1), -1);
        checks.same("34: 13", navy.count(13), -1);
        checks.same("34: least", navy.count(Integer.MIN_VALUE), -1);
        navy.watch();
        checks.same("34: the sea comes again", navy.count(6), 3);
    }
}
