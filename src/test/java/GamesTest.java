/** Promises 31 to 33: RESTS, VOYAGES, MARKS. */
public final class GamesTest {
    private static final String SHIP = "man a plain green 10 hands 1;man b boy green 12 hands 1;post p spray 3 holds 1;shade 5;harbour 4;";

    public static void main(String[] args) {
        Checks checks = new Checks();
        rests(checks);
        noRests(checks);
        voyages(checks);
        wrongVoyages(checks);
        marks(checks);
        marksHoldVoyageAndSeen(checks);
        checks.end();
    }

    private static void due(Checks checks, int both, int gets, int loses, int... rests) {
        GreenButtons navy = new GreenButtons();
        String game = "31: " + both + ", " + gets + ", " + loses;
        checks.same(game, Checks.rests(navy, both, gets, loses, -1), rests.length);
        for (int i = 0; i < rests.length; i++) {
            checks.same(game + " at " + i, Checks.rests(navy, both, gets, loses, i), rests[i]);
        }
        checks.same(game + " beyond", Checks.rests(navy, both, gets, loses, rests.length), Checks.THROWN);
    }

    private static void rests(Checks checks) {
        due(checks, 4, 5, 3, 1, 2);
        due(checks, 3, 5, 4, 3);
        due(checks, 3, 5, 3, 1, 2, 3);
        due(checks, 0, 0, 0, 0, 1, 2, 3);
        due(checks, 1, 0, 0, 0, 1, 2);
        due(checks, 0, 0, 1, 0, 3);
        due(checks, 9, 9, 9, 1, 2, 3);
    }

    private static void noRests(Checks checks) {
        GreenButtons navy = new GreenButtons();
        int[][] wrong = {{10, 0, 0, -1}, {0, 10, 0, -1}, {0, 0, 10, -1}, {-1, 0, 0, -1}, {0, -1, 0, 0}, {0, 0, -1, 0}, {0, 0, 0, -2},
            {0, 0, 0, 4}, {0, 0, 0, Integer.MIN_VALUE}, {0, 0, 0, Integer.MAX_VALUE}, {Integer.MIN_VALUE, 0, 0, 0}};
        for (int[] call : wrong) {
            checks.same("31: wrong", Checks.rests(navy, call[0], call[1], call[2], call[3]), Checks.THROWN);
        }
    }

    /** By a seed of 1 the draws are 16838, 5758, 10113, 17515, 31051, 5627, .. ahead of the modulus. */
    private static void voyages(Checks checks) {
        GreenButtons navy = Checks.launched(SHIP);
        navy.stand(1, 0);
        // 16838 % 2 = 0: a; 5758 % 2 = 0: at p, which is full; 10113 % 20 = 13; the watch: a 11, b 12 + 5
        checks.same("32: greens behind 1", navy.voyages(1, 1, 2), 28);
        checks.same("32: b is captain", navy.voyages(1, 1, 1), 1);
        checks.same("32: no change", navy.voyages(1, 1, 0), 0);
        // 17515 % 2 = 1: b; 31051 % 2 = 1: below; 5627 % 20 = 7; the watch: a 12, b 19
        checks.same("32: greens behind 2", navy.voyages(1, 2, 2), 31);
        checks.same("32: all is as ahead", navy.man(1, 3), 0);
        checks.same("32: greens as ahead", navy.count(7), 22);
        checks.same("32: no watch", navy.count(5), 0);
        checks.same("32: one to undo", navy.count(11), 1);
        // a is at p, which is free: a 14, b 14
        navy.undo();
        checks.same("32: a stands", navy.voyages(1, 1, 2), 28);
        checks.same("32: nobody leads", navy.voyages(1, 1, 1), -1);
        checks.same("32: one change", navy.voyages(1, 1, 0), 1);
        GreenButtons gold = Checks.launched("man a gold green 10 hands 0;man b gold green 10 hands 0;shade 5;");
        // Gold ones change by falling in alone: the first draw of 1 below 20 is looked for by hand.
        int when = 0;
        int who = -1;
        long g = 7;
        for (int watch = 1; when == 0 && watch < 100; watch++) {
            int[] draws = new int[3];
            for (int i = 0; i < 3; i++) {
                g = (g * 1103515245L + 12345L) & 0x7fffffffL;
                draws[i] = (int) (g >> 16) % (i == 0 ? 2 : i == 1 ? 1 : 20);
            }
            when = draws[2] == 1 ? watch : 0;
            who = draws[0];
        }
        checks.is("32: one falls in", when > 1);
        checks.same("32: ahead of it", gold.voyages(7, when - 1, 1), -1);
        checks.same("32: none ahead", gold.voyages(7, when - 1, 0), 0);
        checks.same("32: he leads", gold.voyages(7, when, 1), who);
        checks.same("32: one change", gold.voyages(7, when, 0), 1);
        checks.same("32: his green", gold.voyages(7, when, 2), 25);
    }

    private static void wrongVoyages(Checks checks) {
        GreenButtons navy = Checks.launched(SHIP);
        int[][] wrong = {{-1, 1, 0}, {10000, 1, 0}, {0, 0, 0}, {0, 100, 0}, {0, 1, -1}, {0, 1, 3}, {Integer.MIN_VALUE, 1, 1},
            {1, Integer.MAX_VALUE, 1}};
        for (int[] call : wrong) {
            checks.same("32: wrong", navy.voyages(call[0], call[1], call[2]), -2);
        }
        checks.is("32: the edges", navy.voyages(0, 99, 2) > 0 && navy.voyages(9999, 1, 2) > 0);
        checks.same("32: nobody", new GreenButtons().voyages(9999, 99, 2), 0);
        checks.same("32: nobody leads", new GreenButtons().voyages(9999, 99, 1), -1);
    }

    private static void marks(Checks checks) {
        GreenButtons navy = Checks.launched(SHIP);
        checks.isNot("33: -1", navy.mark(-1, false));
        checks.isNot("33: 4", navy.mark(4, false));
        checks.isNot("33: 4 back", navy.mark(4, true));
        checks.isNot("33: -1 back", navy.mark(Integer.MIN_VALUE, true));
        checks.isNot("33: nothing is on it", navy.mark(3, true));
        navy.stand(0, 0);
        checks.is("33: laid", navy.mark(3, false));
        checks.same("33: undo stays", navy.count(11), 1);
        navy.suck(0);
        navy.watch();
        navy.below(0);
        checks.is("33: another one", navy.mark(0, false));
        checks.is("33: back", navy.mark(3, true));
        checks.same("33: green", navy.man(0, 2), 10);
        checks.same("33: lemon", navy.man(0, 4), 0);
        checks.same("33: post", navy.man(0, 3), 0);
        checks.same("33: watch", navy.count(5), 0);
        checks.same("33: nothing can be undone", navy.count(11), 0);
        checks.isNot("33: not undone", navy.undo());
        navy.dock();
        checks.is("33: it stays laid", navy.mark(3, true));
        checks.same("33: as it was", navy.count(7), 22);
        checks.is("33: the other one", navy.mark(0, true));
        checks.same("33: its watch", navy.count(5), 1);
        checks.same("33: its lemon", navy.man(0, 4), 1);
        checks.is("33: laid again", navy.mark(3, false));
        navy.watch();
        checks.is("33: the new one", navy.mark(3, true));
        checks.same("33: its watch, too", navy.count(5), 1);
    }

    private static void marksHoldVoyageAndSeen(Checks checks) {
        GreenButtons navy = Checks.launched(SHIP);
        Checks.voyage(navy, "below a;watch;");
        navy.see(0, 1, 0, true);
        navy.mark(1, false);
        Checks.voyage(navy, "dock;");
        navy.see(1, 0, 0, true);
        checks.same("33: none fits", navy.sets(0), 0);
        Checks.feedText(navy, "watch");
        navy.mark(1, true);
        checks.same("33: lines", navy.count(9), 2);
        checks.same("33: judged", navy.judged(0), 0);
        checks.same("33: seen", navy.count(10), 1);
        checks.same("33: sets", navy.sets(0), 1);
        checks.same("33: the tape is not held", navy.count(12), 5);
        navy.mark(2, false);
        checks.same("33: see more", navy.see(0, 1, 1, true) ? 2 : 0, navy.count(10));
        navy.mark(2, true);
        checks.same("33: seen at the mark", navy.count(10), 1);
        checks.same("33: the tape goes on", Checks.ship(navy, "sea 2;"), 1);
    }
}
