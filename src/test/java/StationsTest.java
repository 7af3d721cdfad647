/** Promise 21: STATIONS. */
public final class StationsTest {
    public static void main(String[] args) {
        Checks checks = new Checks();
        leastSpray(checks);
        firstRow(checks);
        holding(checks);
        othersKeptDown(checks);
        wrong(checks);
        largest(checks);
        checks.end();
    }

    private static void due(Checks checks, GreenButtons navy, int man, int watches, int... answers) {
        for (int i = 0; i < answers.length; i++) {
            checks.same("21: of " + man + " for " + watches + ", " + (i - 2), navy.stations(man, watches, i - 2), answers[i]);
        }
    }

    private static void leastSpray(Checks checks) {
        GreenButtons navy = Checks.launched("man a plain green 10 hands 0;man b gold green 13 hands 0;"
            + "post p spray 9 holds 1;post q spray 4 holds 1;post r spray 2 holds 1;");
        navy.stand(1, 0);
        due(checks, navy, 0, 1, 0, 4, 1, -1);
        due(checks, navy, 0, 2, 0, 2, 2, -1);
        due(checks, navy, 1, 1, 0, 0, -1, -1);
        checks.same("21: nothing is done", navy.man(1, 3), 0);
        checks.same("21: no watch", navy.count(5), 0);
        checks.same("21: nothing to undo", navy.count(11), 1);
        GreenButtons hopeless = Checks.launched("man a cook green 1 hands 0;man b gold green 60 hands 0;post p spray 9 holds 2;");
        due(checks, hopeless, 0, 12, 1, 0, -1, -1);
    }

    private static void firstRow(Checks checks) {
        GreenButtons dry = Checks.launched("man a plain green 5 hands 0;man b plain green 4 hands 0;man c cook green 1 hands 0;"
            + "post p spray 1 holds 3;post q spray 0 holds 2;post r spray 0 holds 1;");
        due(checks, dry, 0, 1, 0, 0, 1, 1, 2);
        due(checks, dry, 1, 1, 0, 1, 1, 0, 1);
        due(checks, dry, 1, 2, 0, 1, 1, 0, 1);
        GreenButtons two = Checks.launched("man a plain green 5 hands 0;man b gold green 6 hands 0;post p spray 2 holds 1;post q spray 2 holds 1;");
        due(checks, two, 0, 1, 0, 2, 0, -1);
    }

    private static void holding(Checks checks) {
        GreenButtons navy = Checks.launched("man a plain green 5 hands 0;man b cook green 5 hands 0;man c cook green 1 hands 0;man d cook green 0 hands 0;"
            + "post p spray 0 holds 2;post q spray 3 holds 1;post r spray 0 holds 1;");
        due(checks, navy, 3, 1, 3, 0, 0, 0, 2, -1);
        due(checks, navy, 0, 1, 0, 0, 0, 0, 2, -1);
    }

    /** By this law who has nobody above him greens, others don't: a's way up is that b is dry. */
    private static void othersKeptDown(Checks checks) {
        GreenButtons navy = Checks.launched("man a plain green 10 hands 2;man b plain green 10 hands 3;post p spray 3 holds 1;"
            + "greens sweat - wet * (now < 11);");
        due(checks, navy, 0, 1, 0, 3, -1, 0);
        GreenButtons above = Checks.launched("man a plain green 10 hands 0;man b gold green 14 hands 0;post p spray 4 holds 1;sea 0 1;"
            + "greens wet * above;");
        due(checks, above, 0, 1, 1, 0, -1, -1);
        due(checks, above, 0, 2, 0, 4, 0, -1);
        above.watch();
        due(checks, above, 0, 1, 0, 4, 0, -1);
    }

    private static void wrong(Checks checks) {
        GreenButtons navy = Checks.launched("man a plain green 10 hands 0;man b gold green 14 hands 0;post p spray 4 holds 1;");
        int[][] calls = {{-1, 1, 0}, {2, 1, 0}, {0, 0, 0}, {0, 13, 0}, {0, -5, 0}, {0, 1, -3}, {0, 1, 2}, {0, 1, Integer.MAX_VALUE},
            {0, 1, Integer.MIN_VALUE}, {Integer.MIN_VALUE, 1, 0}, {0, Integer.MAX_VALUE, -1}};
        for (int[] call : calls) {
            checks.same("21: wrong " + call[0] + ", " + call[1] + ", " + call[2], navy.stations(call[0], call[1], call[2]), -3);
        }
        checks.same("21: 12 watches", navy.stations(0, 12, -2), 0);
        checks.same("21: nobody", new GreenButtons().stations(0, 1, -2), -3);
    }

    private static void largest(Checks checks) {
        StringBuilder text = new StringBuilder("greens (wet + sweat - above * 2 + (now < 20) * 3 and not (now < 5)) * 3;");
        for (int i = 0; i < 6; i++) {
            text.append("man m").append((char) ('a' + i)).append(" plain green ").append(6 * i).append(" hands 1;");
        }
        for (int i = 0; i < 4; i++) {
            text.append("post p").append((char) ('a' + i)).append(" spray ").append(i + 1).append(" holds 6;");
        }
        GreenButtons navy = Checks.launched(text.toString());
        checks.is("21: the largest ends", navy.stations(0, 12, -2) >= 0);
    }
}
