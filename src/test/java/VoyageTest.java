/** Promises 4 and 14: reading a VOYAGE, its FAULTS, and how it is JUDGED. */
public final class VoyageTest {
    private static final String SHIP = "man a plain green 10 hands 1;man b boy green 12 hands 0;man c gold green 14 hands 5;"
        + "post p spray 3 holds 1;post q spray 1 holds 2;sea 1;shade 2;lemon 4;harbour 3;";

    public static void main(String[] args) {
        Checks checks = new Checks();
        reading(checks);
        lineLimit(checks);
        judging(checks);
        judgedFromTheBeginning(checks);
        checks.end();
    }

    private static void fault(Checks checks, int kind, String text) {
        int at = text.indexOf('^');
        String told = text.substring(0, at) + text.substring(at + 1);
        checks.same("4: " + text, Checks.voyage(Checks.launched(SHIP), told), kind + 16 * at);
    }

    private static void reading(Checks checks) {
        GreenButtons navy = Checks.launched(SHIP);
        checks.same("4: all kinds", Checks.voyage(navy, "stand a p;below a ;suck b;fall c;\nwatch;dock;"), 0);
        checks.same("4: lines", navy.count(9), 6);
        checks.same("4: fault", Checks.voyage(navy, "watch;rest;"), 1 + 16 * 6);
        checks.same("4: the lines stay", navy.count(9), 6);
        fault(checks, 1, "^man a;");
        fault(checks, 1, "^;");
        fault(checks, 1, "^a p;");
        fault(checks, 1, "stand ^;");
        fault(checks, 1, "stand ^7 p;");
        fault(checks, 1, "stand ^stand p;");
        fault(checks, 1, "stand a ^;");
        fault(checks, 1, "stand a ^sea;");
        fault(checks, 1, "stand a p ^q;");
        fault(checks, 1, "stand a p^");
        fault(checks, 1, "below^");
        fault(checks, 1, "below a ^p;");
        fault(checks, 1, "suck ^gold;");
        fault(checks, 1, "watch ^a;");
        fault(checks, 1, "dock ^dock;");
        fault(checks, 1, "fall ^abcdefghi;");
        fault(checks, 2, "stand ^d p;");
        fault(checks, 2, "stand ^p a;");
        fault(checks, 2, "stand a ^b;");
        fault(checks, 2, "below ^x;");
        fault(checks, 2, "suck ^q;");
        fault(checks, 2, "fall ^now;");
        checks.same("3: a smaller ship", Checks.ship(navy, "man a boy green 1 hands 1;post p spray 1 holds 1;"), 0);
        checks.same("4: the last ship's man", Checks.voyage(navy, "suck b;"), 2 + 16 * 5);
        checks.same("4: the last ship's post", Checks.voyage(navy, "stand a q;"), 2 + 16 * 8);
        checks.same("4: this ship's", Checks.voyage(navy, "stand a p;"), 0);
    }

    private static void lineLimit(Checks checks) {
        StringBuilder forty = new StringBuilder();
        for (int i = 0; i < 40; i++) {
            forty.append("dock;");
        }
        GreenButtons navy = Checks.launched(SHIP);
        checks.same("4: forty", Checks.voyage(navy, forty.toString()), 0);
        checks.same("4: forty lines", navy.count(9), 40);
        fault(checks, 5, forty + "^watch;");
        fault(checks, 5, forty + "^stand");
        fault(checks, 1, forty + "^rest;");
        fault(checks, 1, forty + "^;");
    }

    private static void judged(Checks checks, String voyage, int barred, int turned, int greenest) {
        GreenButtons navy = Checks.launched(SHIP);
        checks.same("4: " + voyage, Checks.voyage(navy, voyage), 0);
        checks.same("14: barred " + voyage, navy.judged(0), barred);
        checks.same("14: turned " + voyage, navy.judged(1), turned);
        checks.same("14: greenest " + voyage, navy.judged(2), greenest);
        checks.same("14: -1", navy.judged(-1), -2);
        checks.same("14: 3", navy.judged(3), -2);
        checks.same("14: nothing is done", navy.count(5), 0);
        checks.same("14: greens stay", navy.count(7), 36);
        checks.same("14: nothing to undo", navy.count(11), 0);
    }

    private static void judging(Checks checks) {
        judged(checks, "", -1, -1, 2);
        judged(checks, "below a;", 0, -1, 2);
        judged(checks, "stand a p;stand b p;stand a p;", 1, -1, 2);
        judged(checks, "stand a p;stand a p;", 1, -1, 2);
        judged(checks, "stand a p;stand a q;stand b p;stand c q;stand b q;", 4, -1, 2);
        judged(checks, "suck b;suck c;suck b;", 2, 1, 0);
        judged(checks, "suck c;", -1, 0, 1);
        judged(checks, "fall c;fall c;watch;dock;", -1, -1, 2);
        judged(checks, "watch;fall a;", -1, 1, 0);
        judged(checks, "stand b p;watch;watch;", -1, 1, 1);
        judged(checks, "watch;watch;watch;watch;", -1, 3, 0);
        judged(checks, "watch;watch;watch;watch;watch;", -1, 3, 0);
        GreenButtons nobody = Checks.launched("post p spray 1 holds 1;");
        checks.same("14: nobody", Checks.voyage(nobody, "watch;dock;"), 0);
        checks.same("14: nobody barred", nobody.judged(0), -1);
        checks.same("14: nobody turned", nobody.judged(1), -1);
        checks.same("14: nobody greenest", nobody.judged(2), -1);
    }

    private static void judgedFromTheBeginning(Checks checks) {
        GreenButtons navy = Checks.launched(SHIP);
        navy.fall(0);
        navy.suck(2);
        navy.stand(1, 0);
        navy.watch();
        Checks.voyage(navy, "suck c;stand b p;below b;");
        checks.same("14: none is barred, as at the beginning", navy.judged(0), -1);
        checks.same("14: c is captain at the beginning", navy.judged(1), 0);
        checks.same("14: b is the greenest", navy.judged(2), 1);
        checks.same("14: the sea as at the beginning", navy.count(5), 1);
    }
}
