/** Promises 18 to 20, 22, 23, 26 and 30: WHEN, PASSES, CHANGES, LEMONS, DOCKS, FIRST, CHANCE. */
public final class ForecastTest {
    private static final int[] WRONG_MEN = {-1, 3, Integer.MIN_VALUE, Integer.MAX_VALUE};

    public static void main(String[] args) {
        Checks checks = new Checks();
        whenAndPasses(checks);
        edgeOfSixty(checks);
        changing(checks);
        lemons(checks);
        lemonForHimself(checks);
        harbours(checks);
        chances(checks);
        checks.end();
    }

    /** Behind w watches: a 10 + 2w, b 15 + w, c 20. So b passes c at 6, a passes b at 6 and c at 6: a leads from 6 on. */
    private static GreenButtons race() {
        return Checks.launched("man a plain green 10 hands 2;man b plain green 15 hands 1;man c gold green 20 hands 0;lemon 4;");
    }

    private static void whenAndPasses(Checks checks) {
        GreenButtons navy = race();
        checks.same("18: a", navy.when(0), 6);
        checks.same("18: b never", navy.when(1), -1);
        checks.same("18: c now", navy.when(2), 0);
        checks.same("19: a by c", navy.passes(0, 2), 6);
        checks.same("19: a by b", navy.passes(0, 1), 6);
        checks.same("19: b by c", navy.passes(1, 2), 6);
        checks.same("19: now", navy.passes(2, 0), 0);
        checks.same("19: the same", navy.passes(1, 1), -1);
        checks.same("26: a ahead of b", navy.first(0, 1), 0);
        checks.same("26: a ahead of b, the other way round", navy.first(1, 0), 0);
        checks.same("26: c ahead of a", navy.first(0, 2), 2);
        checks.same("26: the same", navy.first(0, 0), -1);
        navy.fall(1);
        checks.same("26: b and c: b", navy.first(2, 1), 1);
        navy.undo();
        navy.watch();
        checks.same("18: from now on", navy.when(0), 5);
        checks.same("18: nothing is done", navy.count(5), 1);
        for (int man : WRONG_MEN) {
            checks.same("18: " + man, navy.when(man), -1);
            checks.same("19: " + man, navy.passes(man, 0), -1);
            checks.same("19: 0, " + man, navy.passes(0, man), -1);
            checks.same("26: " + man, navy.first(man, 0), -1);
            checks.same("26: 0, " + man, navy.first(0, man), -1);
        }
        GreenButtons stuck = Checks.launched("man a gold green 5 hands 0;man b gold green 5 hands 0;man c cook green 1 hands 0;");
        checks.same("26: none", stuck.first(0, 1), -1);
        checks.same("26: none of all", stuck.first(2, 1), -1);
    }

    private static void edgeOfSixty(Checks checks) {
        String law = "greens (now < 59) * (sweat);";
        GreenButtons late = Checks.launched("man a plain green 0 hands 1;man b gold green 59 hands 0;greens 1;");
        checks.same("18: at 60", late.when(0), 60);
        checks.same("19: at 60", late.passes(0, 1), 60);
        GreenButtons never = Checks.launched("man a plain green 0 hands 1;man b gold green 60 hands 0;greens 1;");
        checks.same("18: not by 60", never.when(0), -1);
        checks.same("19: not by 60", never.passes(0, 1), -1);
        checks.same("20: at 60 nobody leads", never.changes(60), 1);
        checks.same("20: by 59 nothing", never.changes(59), 0);
        checks.same("18: he stops", Checks.launched("man a plain green 0 hands 1;man b gold green 59 hands 0;" + law).when(0), -1);
    }

    private static void changing(Checks checks) {
        GreenButtons navy = race();
        checks.same("20: 1", navy.changes(1), 0);
        checks.same("20: 4", navy.changes(4), 0);
        checks.same("20: 5: c and a alike", navy.changes(5), 1);
        checks.same("20: 6: then a", navy.changes(6), 2);
        checks.same("20: 60: both at 99 at last", navy.changes(60), 2);
        for (int watches : new int[] {0, -1, 61, Integer.MAX_VALUE, Integer.MIN_VALUE}) {
            checks.same("20: " + watches, navy.changes(watches), -1);
        }
        GreenButtons full = Checks.launched("man a plain green 60 hands 5;man b plain green 58 hands 4;");
        checks.same("20: a at 99, then b as well", full.changes(60), 1);
        checks.same("20: nobody", new GreenButtons().changes(60), 0);
    }

    private static void lemons(Checks checks) {
        GreenButtons navy = race();
        checks.same("22: c is captain by none", navy.lemons(2, 1), 0);
        checks.same("22: b needs c, who has 16 as b", navy.lemons(1, 1), -1);
        checks.same("22: b needs c", navy.lemons(1, 2), 4);
        checks.same("22: a behind 3 has 16, b 18, c 20: both", navy.lemons(0, 3), -1);
        checks.same("22: a behind 4 has 18, b 19, c 20: both", navy.lemons(0, 4), 6);
        checks.same("22: a behind 6", navy.lemons(0, 6), 0);
        navy.suck(1);
        checks.same("22: none who did", navy.lemons(1, 2), -1);
        checks.same("22: b did, so c alone", navy.lemons(0, 4), 4);
        for (int man : WRONG_MEN) {
            checks.same("22: " + man, navy.lemons(man, 1), -1);
        }
        checks.same("22: 0 watches", navy.lemons(2, 0), -1);
        checks.same("22: 13 watches", navy.lemons(2, 13), -1);
        checks.same("22: 12 watches", navy.lemons(0, 12), 0);
        checks.same("22: nobody did", navy.man(2, 4), 0);
        GreenButtons equal = Checks.launched("man a gold green 9 hands 0;man b gold green 9 hands 0;man c cook green 3 hands 0;lemon 1;");
        checks.same("22: a by b", equal.lemons(0, 1), 2);
        checks.same("22: b by a", equal.lemons(1, 1), 1);
    }

    /** Who has less than 10 greens by 9: his own lemon makes him captain. */
    private static void lemonForHimself(Checks checks) {
        GreenButtons navy = Checks.launched("man a plain green 10 hands 0;man b gold green 12 hands 0;man c gold green 12 hands 0;"
            + "lemon 1;greens (now < 10) * 9;");
        checks.same("22: his own", navy.lemons(0, 1), 1);
        GreenButtons least = Checks.launched("man a plain green 10 hands 0;man b plain green 10 hands 0;man c plain green 12 hands 0;"
            + "lemon 3;greens (now < 10) * 9;");
        checks.same("22: not the other one's", least.lemons(0, 1), 1);
        GreenButtons equal = Checks.launched("man a plain green 10 hands 0;man b gold green 12 hands 0;lemon 3;greens (now < 10) * 9 + (now = 10);");
        checks.same("22: his own or b's: the least of equal ones", equal.lemons(0, 1), 1);
        GreenButtons fewest = Checks.launched("man a gold green 12 hands 0;man b gold green 12 hands 0;man c plain green 10 hands 0;lemon 3;"
            + "greens (now < 10) * 9;");
        checks.same("22: c's own, not a's and b's, which is less", fewest.lemons(2, 1), 4);
    }

    private static void harbours(Checks checks) {
        GreenButtons navy = Checks.launched("man a plain green 20 hands 0;man b gold green 14 hands 0;man c plain green 3 hands 0;harbour 2;");
        checks.same("23: a no more", navy.docks(0), 3);
        checks.same("23: b is so", navy.docks(1), 4);
        checks.same("23: c never", navy.docks(2), -1);
        checks.same("23: nothing is done", navy.man(0, 2), 20);
        for (int man : WRONG_MEN) {
            checks.same("23: " + man, navy.docks(man), -1);
        }
        checks.same("23: without a toll", Checks.launched("man a plain green 5 hands 0;man b gold green 4 hands 0;harbour 0;").docks(0), -1);
        GreenButtons edge = Checks.launched("man a plain green 50 hands 0;man b gold green 0 hands 0;man c gold green 1 hands 0;harbour 1;");
        checks.same("23: c at 50", edge.docks(2), 50);
        checks.same("23: a at 49", edge.docks(0), 49);
        GreenButtons beyond = Checks.launched("man a plain green 51 hands 0;man c gold green 1 hands 0;harbour 1;");
        checks.same("23: a at 50", beyond.docks(0), 50);
        checks.same("23: c not by 50", beyond.docks(1), -1);
    }

    /** a at a post of spray 1: 2 more by a rough sea, none by a calm one; b has 11 or, of gold, stays. */
    private static void chances(Checks checks) {
        GreenButtons navy = Checks.launched("man a plain green 10 hands 0;man b gold green 11 hands 0;man c cook green 3 hands 0;"
            + "post p spray 1 holds 1;sea 3;");
        checks.same("30: below", navy.chance(0, 1, 10), 0);
        GreenButtons two = Checks.launched("man a plain green 10 hands 0;man b gold green 12 hands 0;post p spray 1 holds 1;sea 3;");
        two.stand(0, 0);
        checks.same("30: a sea of 2 makes them alike", two.chance(0, 1, 10), 0);
        checks.same("30: twice", two.chance(0, 2, 10), 1000000);
        checks.same("30: b if it is calm", two.chance(1, 1, 4), 600000);
        navy.stand(0, 0);
        checks.same("30: 3 of ten", navy.chance(0, 1, 3), 300000);
        checks.same("30: b else", navy.chance(1, 1, 3), 700000);
        checks.same("30: one of two", navy.chance(0, 2, 3), 510000);
        checks.same("30: one of six", navy.chance(0, 6, 1), 468559);
        checks.same("30: none of six", navy.chance(1, 6, 1), 531441);
        checks.same("30: by 0", navy.chance(0, 6, 0), 0);
        checks.same("30: by 0 b", navy.chance(1, 6, 0), 1000000);
        checks.same("30: by 10", navy.chance(0, 6, 10), 1000000);
        checks.same("30: c", navy.chance(2, 6, 5), 0);
        for (int man : WRONG_MEN) {
            checks.same("30: " + man, navy.chance(man, 1, 1), -1);
        }
        checks.same("30: 0 watches", navy.chance(1, 0, 1), -1);
        checks.same("30: 7 watches", navy.chance(1, 7, 1), -1);
        checks.same("30: odds of 11", navy.chance(1, 1, 11), -1);
        checks.same("30: odds of -1", navy.chance(1, 1, -1), -1);
        checks.same("30: nothing is done", navy.count(5), 0);
    }
}
