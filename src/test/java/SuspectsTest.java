/** Promises 27 to 29: SEEN, SETS, ASK. */
public final class SuspectsTest {
    private static final String SHIP = "man a plain green 20 hands 1;man b plain green 18 hands 2;man c gold green 15 hands 0;lemon 4;";

    public static void main(String[] args) {
        Checks checks = new Checks();
        seeing(checks);
        sets(checks);
        asking(checks);
        whoDid(checks);
        contradiction(checks);
        checks.end();
    }

    private static void seeing(Checks checks) {
        GreenButtons navy = Checks.launched(SHIP);
        int[][] wrong = {{0, 0, 0}, {-1, 0, 0}, {0, 3, 0}, {3, 0, 0}, {0, 1, -1}, {0, 1, 21}, {0, -1, 1}, {0, 1, Integer.MAX_VALUE}};
        for (int[] one : wrong) {
            checks.isNot("27: " + one[0] + ", " + one[1] + ", " + one[2], navy.see(one[0], one[1], one[2], true));
        }
        checks.same("27: none", navy.count(10), 0);
        for (int i = 0; i < 8; i++) {
            checks.is("27: " + i, navy.see(0, 1, i == 7 ? 20 : 0, i < 7));
        }
        checks.isNot("27: 8 there are", navy.see(0, 1, 0, true));
        checks.same("27: eight", navy.count(10), 8);
        checks.same("28: by eight: b is not above now, is as green behind 2 and greener then", navy.sets(0), 6);
        checks.same("29: by eight: a is above c by all, b by 4 of 6", navy.ask(0), 10);
        checks.same("27: nothing to undo", navy.count(11), 0);
    }

    /** Now: a 20 or 16, b 18 or 14, c 15 or 11. */
    private static void sets(Checks checks) {
        GreenButtons navy = Checks.launched(SHIP);
        checks.same("28: all sets", navy.sets(0), 8);
        checks.same("28: in all", navy.sets(1), 0);
        checks.same("28: in some", navy.sets(2), 7);
        checks.same("28: -1", navy.sets(-1), -1);
        checks.same("28: 3", navy.sets(3), -1);
        navy.see(0, 1, 0, false);
        checks.same("28: a, not b", navy.sets(0), 2);
        checks.same("28: in all a", navy.sets(1), 1);
        checks.same("28: in some a, c", navy.sets(2), 5);
        navy.see(2, 0, 2, false);
        checks.same("28: behind 2: a 18, c 15 or 11", navy.sets(0), 2);
        navy.see(1, 0, 2, true);
        checks.same("28: behind 2: b 22, a 18", navy.sets(0), 2);
        checks.same("28: nobody did", navy.man(0, 4), 0);
        checks.same("28: no watch", navy.count(5), 0);
        GreenButtons later = Checks.launched(SHIP);
        later.see(1, 0, 3, true);
        checks.same("28: behind 3: a 23 or 19, b 24 or 20: but if b alone did", later.sets(0), 6);
        later.see(1, 0, 1, true);
        checks.same("28: behind 1: a 21 or 17, b 20 or 16: if a alone did", later.sets(0), 2);
        GreenButtons equal = Checks.launched("man a plain green 9 hands 0;man b plain green 9 hands 0;lemon 4;");
        equal.see(0, 1, 0, false);
        checks.same("28: as green is not greener", equal.sets(0), 3);
        checks.same("28: nobody's set", new GreenButtons().sets(0), 1);
    }

    private static void asking(Checks checks) {
        GreenButtons navy = Checks.launched(SHIP);
        checks.same("29: a, b: 6 of 8; b, c: 6 of 8", navy.ask(0), 1);
        checks.same("29: -1", navy.ask(-1), -1);
        checks.same("29: 21", navy.ask(21), -1);
        checks.same("29: at 20 all by the law", navy.ask(20), -1);
        checks.same("29: at 2: a 22 or 18, b 22 or 18: 6 of 8", navy.ask(2), 1);
        checks.same("29: at 4: a 24 or 20, b 26 or 22: nothing but b, a", navy.ask(4), 1);
        GreenButtons close = Checks.launched("man a plain green 40 hands 0;man b gold green 30 hands 0;man c gold green 28 hands 0;"
            + "man d gold green 27 hands 0;lemon 3;");
        checks.same("29: b, c: 12 of 16; b, d: 12, as 27 is not greener; c, d: 12", close.ask(0), 10);
        GreenButtons twins = Checks.launched("man a gold green 30 hands 0;man b gold green 30 hands 0;lemon 3;");
        checks.same("29: a greener by one set of 4", twins.ask(0), 1);
        twins.see(0, 1, 0, false);
        checks.same("29: of 3: b greener by 1", twins.ask(0), 8);
        twins.see(1, 0, 0, false);
        checks.same("29: both or neither: nothing parts them", twins.ask(0), -1);
        checks.same("29: nobody", new GreenButtons().ask(0), -1);
        GreenButtons last = Checks.launched("man a plain green 40 hands 0;man b gold green 30 hands 0;man c gold green 25 hands 0;lemon 5;");
        checks.same("29: a greener in all, b not than c in 2 of 8", last.ask(20), 8 + 2);
    }

    private static void whoDid(Checks checks) {
        GreenButtons navy = Checks.launched(SHIP);
        navy.see(0, 1, 0, false);
        checks.same("28: a", navy.sets(1), 1);
        navy.suck(0);
        checks.same("28: a did, so he is in none", navy.sets(0), 2);
        checks.same("28: in some: c", navy.sets(2), 4);
        navy.undo();
        navy.suck(1);
        checks.same("28: b did: a 20 or 16, b 14", navy.sets(0), 0);
        navy.undo();
        navy.watch();
        navy.watch();
        checks.same("28: from now: a 22 or 18, b 22 or 18", navy.sets(0), 6);
        checks.same("28: in all", navy.sets(1), 0);
    }

    private static void contradiction(Checks checks) {
        GreenButtons navy = Checks.launched(SHIP);
        navy.see(0, 1, 0, true);
        navy.see(0, 1, 0, false);
        checks.same("28: none", navy.sets(0), 0);
        checks.same("28: none in all", navy.sets(1), -1);
        checks.same("28: none in some", navy.sets(2), -1);
        checks.same("29: none", navy.ask(0), -1);
    }
}
