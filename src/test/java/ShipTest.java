/** Promises 3 and 5, 6: reading a SHIP, its FAULTS, and what is told of men and posts. */
public final class ShipTest {
    private static final String MAN = "man a plain green 1 hands 1;";

    public static void main(String[] args) {
        Checks checks = new Checks();
        lines(checks);
        tokens(checks);
        numbers(checks);
        names(checks);
        tooMany(checks);
        laws(checks);
        lawValues(checks);
        staysByFault(checks);
        launchesAnew(checks);
        menAndPosts(checks);
        checks.end();
    }

    /** The wrong token is the one behind the sign ^, which is no part of the text. */
    private static void fault(Checks checks, int kind, String text) {
        int at = text.indexOf('^');
        String told = text.substring(0, at) + text.substring(at + 1);
        checks.same("3: " + text, Checks.ship(new GreenButtons(), told), kind + 16 * at);
    }

    private static void fine(Checks checks, String text) {
        checks.same("3: " + text, Checks.ship(new GreenButtons(), text), 0);
    }

    private static void lines(Checks checks) {
        fine(checks, "");
        fine(checks, " \n ");
        fine(checks, "sea 1;shade 1;lemon 1;harbour 1;greens 1;");
        fine(checks, "greens 1;harbour 1;lemon 1;shade 1;sea 1;" + MAN);
        fault(checks, 1, "^;");
        fault(checks, 1, "^ship;");
        fault(checks, 1, "^5");
        fault(checks, 1, "^stand a b;");
        fault(checks, 1, "man^");
        fault(checks, 1, "man   ^");
        fault(checks, 1, "man ^;");
        fault(checks, 1, "man ^7");
        fault(checks, 1, "man a ^king green 1 hands 1;");
        fault(checks, 1, "man a ^green 1 hands 1;");
        fault(checks, 1, "man a boy ^hands 1;");
        fault(checks, 1, "man a boy green ^hands 1;");
        fault(checks, 1, "man a boy green 1 ^;");
        fault(checks, 1, "man a boy green 1 hands 1 ^");
        fault(checks, 1, "man a boy green 1 hands 1 ^man");
        fault(checks, 1, "post p ^holds 1;");
        fault(checks, 1, "post p spray 1 ^;");
        fault(checks, 1, "post p spray 1 holds 1 ^1;");
        fault(checks, 1, "sea ^;");
        fault(checks, 1, "sea 1 ^a;");
        fault(checks, 1, "shade ^;");
        fault(checks, 1, "shade 1 ^1;");
        fault(checks, 1, "lemon ^-1;");
        fault(checks, 3, "sea 1;^sea 1;");
        fault(checks, 3, "shade 1;^shade");
        fault(checks, 3, "lemon 1;sea 1;^lemon 1;");
        fault(checks, 3, "harbour 1;^harbour 1;");
        fault(checks, 3, "greens 1;^greens 1;");
        fault(checks, 1, "greens 1;^7 greens 1;");
    }

    private static void tokens(Checks checks) {
        fine(checks, "man abcdefgh plain green 1 hands 1;");
        fine(checks, "man z plain green 1 hands 1;man azz plain green 1 hands 1;man za boy green 1 hands 1;");
        fault(checks, 1, "man ^abcdefghi plain green 1 hands 1;");
        fine(checks, "sea 0001;");
        fault(checks, 1, "sea ^00001;");
        fine(checks, "man a plain green 1hands 1;");
        fine(checks, "man a plain green1hands1;\npost\np\nspray1holds2;");
        fault(checks, 1, "man a^1 plain green 1 hands 1;");
        fault(checks, 1, "man ^A plain green 1 hands 1;");
        fault(checks, 1, "sea 1^,2;");
        fault(checks, 1, "sea 1;^#");
        fault(checks, 1, "^seashade 1;");
    }

    private static void numbers(Checks checks) {
        fine(checks, "man a plain green 60 hands 5;man b plain green 0 hands 0;");
        fault(checks, 4, "man a plain green ^61 hands 5;");
        fault(checks, 4, "man a plain green 60 hands ^6;");
        fine(checks, "post p spray 9 holds 6;post q spray 0 holds 1;");
        fault(checks, 4, "post p spray ^10 holds 1;");
        fault(checks, 4, "post p spray 1 holds ^0;");
        fault(checks, 4, "post p spray 1 holds ^7;");
        fine(checks, "sea 0 1 2 3 0 1 2 3 0 1 2 3;");
        fault(checks, 4, "sea 0 ^4;");
        fault(checks, 4, "shade ^0;");
        fault(checks, 4, "shade ^10;");
        fine(checks, "shade 9;lemon 20;harbour 9;");
        fine(checks, "shade 1;lemon 1;harbour 0;");
        fault(checks, 4, "lemon ^0;");
        fault(checks, 4, "lemon ^21;");
        fault(checks, 4, "harbour ^10;");
        fault(checks, 4, "harbour ^9999");
    }

    private static void names(Checks checks) {
        String taken = "man green hands post spray holds sea shade lemon harbour greens stand below suck fall watch dock"
            + " plain cook boy gold not and or";
        for (String word : taken.split(" ")) {
            fault(checks, 1, "man ^" + word + " plain green 1 hands 1;");
            fault(checks, 1, "post ^" + word + " spray 1 holds 1;");
        }
        for (String word : "now sweat wet above mans me an".split(" ")) {
            fine(checks, "man " + word + " plain green 1 hands 1;");
        }
        fault(checks, 3, MAN + "man ^a boy green 1 hands 1;");
        fault(checks, 3, MAN + "post ^a spray 1 holds 1;");
        fault(checks, 3, "post a spray 1 holds 1;man ^a");
        fault(checks, 3, "post a spray 1 holds 1;post ^a spray");
        fine(checks, MAN + "man aa boy green 1 hands 1;man b boy green 1 hands 1;");
    }

    private static void tooMany(Checks checks) {
        StringBuilder six = new StringBuilder();
        for (char name = 'a'; name < 'g'; name++) {
            six.append("man ").append(name).append(" plain green 1 hands 1;");
        }
        fine(checks, six.toString());
        fault(checks, 5, six + "^man g plain green 1 hands 1;");
        fault(checks, 5, six + "^man");
        String four = "post a spray 1 holds 1;post b spray 1 holds 1;post c spray 1 holds 1;post d spray 1 holds 1;";
        fine(checks, four);
        fault(checks, 5, four + "^post e spray 1 holds 1;");
        fault(checks, 5, "sea 1 1 1 1 1 1 1 1 1 1 1 1 ^1;");
        fault(checks, 5, "sea 1 1 1 1 1 1 1 1 1 1 1 1 ^0;");
        fault(checks, 4, "sea 1 1 1 1 1 1 1 1 1 1 1 1 ^4;");
        fault(checks, 1, "sea 1 1 1 1 1 1 1 1 1 1 1 1 ^a;");
    }

    private static void laws(Checks checks) {
        fault(checks, 1, "greens ^;");
        fault(checks, 1, "greens ^green;");
        fault(checks, 1, "greens now ^now;");
        fault(checks, 1, "greens now +^;");
        fault(checks, 1, "greens ^-1;");
        fault(checks, 1, "greens 1 < 2 ^< 3;");
        fault(checks, 1, "greens 1 = 2 ^< 3;");
        fine(checks, "greens 1 < 2 and 2 = 3 or 4 < 5;");
        fault(checks, 1, "greens (1^;");
        fault(checks, 1, "greens 1^);");
        fault(checks, 1, "greens (^);");
        fault(checks, 1, "greens not ^and 1;");
        fault(checks, 1, "greens 1 ^not 1;");
        fault(checks, 1, "greens ^10000;");
        fine(checks, "greens 9999;");
        fine(checks, "greens ((((1))));");
        fault(checks, 5, "greens (((((^1)))));");
        fault(checks, 5, "greens (((((^(1))))));");
        fault(checks, 5, "greens (((((^not 1)))));");
        fault(checks, 1, "greens (((((^)");
        fine(checks, "greens not not not not 1;");
        fault(checks, 5, "greens not not not not not ^now;");
        fault(checks, 5, "greens not not not not not ^not now;");
        fault(checks, 5, "greens ((not (not ^(2))));");
        fine(checks, "greens not (not (1)) + ((((1)))) * (not (not 1));");
    }

    /** A man of green 10 and hands 3 on a ship of one gold man of green 50, behind one watch. */
    private static void law(Checks checks, String law, int rise) {
        GreenButtons navy = Checks.launched("man a boy green 10 hands 3;man b gold green 50 hands 1;post p spray 2 holds 1;sea 3;greens "
            + law + ";");
        navy.stand(0, 0);
        navy.watch();
        checks.same("11: greens " + law, navy.man(0, 2), 10 + rise);
        checks.same("11: gold by " + law, navy.man(1, 2), 50);
    }

    private static void lawValues(Checks checks) {
        law(checks, "now - 7", 3);
        law(checks, "sweat", 6);
        law(checks, "wet", 6);
        law(checks, "above", 1);
        law(checks, "9999", 9);
        law(checks, "10", 9);
        law(checks, "1 - 2", 0);
        law(checks, "9999 * 9999 * 22", 0);
        law(checks, "0 - 9999 * 9999 * 22", 9);
        law(checks, "2 + 1 * 3", 5);
        law(checks, "8 - 3 - 2", 3);
        law(checks, "8 - (3 - 2)", 7);
        law(checks, "not 0 + 3", 4);
        law(checks, "not 5", 0);
        law(checks, "not (0 - 1)", 0);
        law(checks, "2 and 3", 1);
        law(checks, "2 and 0", 0);
        law(checks, "1 and 1", 1);
        law(checks, "0 and 2", 0);
        law(checks, "0 or 7", 1);
        law(checks, "0 or 0", 0);
        law(checks, "1 or 1 and 0", 0);
        law(checks, "1 or (1 and 0)", 1);
        law(checks, "0 and 1 or 1", 1);
        law(checks, "(now < 11) * 4", 4);
        law(checks, "(now < 10) * 4", 0);
        law(checks, "(now = 5 + 5) * 4 + (now = 9)", 4);
        law(checks, "5 < 3 + 3", 1);
    }

    private static void staysByFault(Checks checks) {
        GreenButtons navy = Checks.launched(MAN + "post p spray 1 holds 1;shade 7;greens 4;");
        Checks.voyage(navy, "watch;");
        navy.stand(0, 0);
        navy.see(0, 0, 0, true);
        navy.mark(2, false);
        checks.same("3: fault", Checks.ship(navy, "man b plain green 2 hands 2;greens 2;shade 0;"), 4 + 16 * 43);
        checks.same("3: men stay", navy.count(0), 1);
        checks.same("3: shade stays", navy.count(2), 7);
        checks.same("3: voyage stays", navy.count(9), 1);
        checks.same("3: undo stays", navy.count(11), 1);
        checks.same("3: he stands there still", navy.man(0, 3), 0);
        checks.is("3: mark stays", navy.mark(2, true));
        navy.watch();
        checks.same("3: the law stays", navy.man(0, 2), 5);
    }

    private static void launchesAnew(Checks checks) {
        GreenButtons navy = Checks.launched("man a plain green 1 hands 1;man b boy green 2 hands 2;post p spray 1 holds 1;sea 2 3;shade 4;"
            + "lemon 9;harbour 8;greens 5;");
        Checks.voyage(navy, "watch;");
        navy.stand(0, 0);
        navy.watch();
        navy.suck(0);
        navy.see(0, 1, 1, true);
        navy.mark(0, false);
        checks.same("3: again", Checks.ship(navy, "man b cook green 20 hands 3;"), 0);
        int[] due = {1, 0, 3, 5, 2, 0, 1, 20, 1, 0, 0, 0, 0};
        for (int what = 0; what < due.length; what++) {
            checks.same("3: again, count " + what, navy.count(what), due[what]);
        }
        checks.same("3: no lemon is used", navy.man(0, 4), 0);
        checks.isNot("3: no mark", navy.mark(0, true));
        checks.isNot("3: nothing is undone", navy.undo());
        navy.watch();
        checks.same("3: the usual law, wet + sweat", navy.man(0, 2), 23);
        checks.same("3: the empty ship", navy.ship(), 0);
        checks.same("3: nobody", navy.count(0), 0);
        checks.same("3: the watch", navy.count(5), 0);
    }

    private static void menAndPosts(Checks checks) {
        GreenButtons navy = Checks.launched("man a plain green 5 hands 1;man b cook green 7 hands 2;man c boy green 7 hands 3;"
            + "man d gold green 9 hands 4;post p spray 2 holds 3;post q spray 0 holds 6;");
        navy.stand(2, 1);
        navy.suck(1);
        int[][] due = {{0, 1, 5, -1, 0, 2}, {1, 2, 2, -1, 1, 3}, {2, 3, 7, 1, 0, 1}, {3, 4, 9, -1, 0, 0}};
        for (int man = 0; man < 4; man++) {
            for (int what = 0; what < 6; what++) {
                checks.same("5: man " + man + " " + what, navy.man(man, what), due[man][what]);
            }
            checks.same("5: man " + man + " -1", navy.man(man, -1), -2);
            checks.same("5: man " + man + " 6", navy.man(man, 6), -2);
        }
        checks.same("5: man 4", navy.man(4, 0), -2);
        checks.same("5: man -1", navy.man(-1, 0), -2);
        int[][] posts = {{2, 3, 0}, {0, 6, 4}};
        for (int post = 0; post < 2; post++) {
            for (int what = 0; what < 3; what++) {
                checks.same("6: post " + post + " " + what, navy.post(post, what), posts[post][what]);
            }
            checks.same("6: post " + post + " -1", navy.post(post, -1), -1);
            checks.same("6: post " + post + " 3", navy.post(post, 3), -1);
        }
        checks.same("6: post 2", navy.post(2, 0), -1);
        checks.same("6: post -1", navy.post(-1, 2), -1);
    }
}
