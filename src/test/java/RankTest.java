/** Promises 15 to 17, 24 and 25: CAPTAIN, ARGUES, SALUTES, TWINS, SHADES. */
public final class RankTest {
    public static void main(String[] args) {
        Checks checks = new Checks();
        ranks(checks, new int[] {10, 14, 6, 18, 10, 13}, 4, 3);
        captains(checks);
        quarrels(checks);
        twinsAndShades(checks);
        checks.end();
    }

    private static GreenButtons ship(int shade, int... greens) {
        StringBuilder text = new StringBuilder("shade " + shade + ";");
        for (int i = 0; i < greens.length; i++) {
            text.append("man ").append((char) ('a' + i)).append(" plain green ").append(greens[i]).append(" hands 0;");
        }
        return Checks.launched(text.toString());
    }

    private static void ranks(Checks checks, int[] greens, int shade, int captain) {
        GreenButtons navy = ship(shade, greens);
        int[] ranks = {3, 1, 5, 0, 3, 2};
        for (int man = 0; man < 6; man++) {
            checks.same("5: rank " + man, navy.man(man, 5), ranks[man]);
        }
        checks.same("15: captain", navy.captain(), captain);
    }

    private static void captains(Checks checks) {
        checks.same("15: alone", ship(3, 0).captain(), 0);
        checks.same("15: two alike", ship(3, 5, 5).captain(), -1);
        checks.same("15: two alike behind", ship(3, 5, 7, 5).captain(), 1);
        checks.same("15: two alike ahead", ship(3, 7, 5, 7).captain(), -1);
        checks.same("15: nobody", ship(3).captain(), -1);
    }

    private static void quarrels(Checks checks) {
        GreenButtons navy = ship(4, 10, 14, 6, 18, 10, 13);
        int[] argues = {16 + 32, 32, 0, 0, 1 + 32, 1 + 2 + 16};
        int[] salutes = {8, 0, 10, 0, 8, 0};
        for (int man = 0; man < 6; man++) {
            checks.same("16: " + man, navy.argues(man), argues[man]);
            checks.same("17: " + man, navy.salutes(man), salutes[man]);
        }
        checks.same("16: -1", navy.argues(-1), -1);
        checks.same("16: 6", navy.argues(6), -1);
        checks.same("17: -1", navy.salutes(-1), -1);
        checks.same("17: 6", navy.salutes(6), -1);
        checks.same("16: by a shade of 1 like ones alone", ship(1, 5, 5, 6).argues(0), 2);
        checks.same("16: the first one, too", ship(3, 9, 8).argues(1), 1);
        checks.same("17: the first one, too", ship(3, 9, 3).salutes(1), 1);
        checks.same("17: by a shade of 1 from 2 on", ship(1, 5, 6, 7, 8).salutes(0), 12);
    }

    private static void twinsAndShades(Checks checks) {
        checks.same("24: nobody", ship(3).twins(), 0);
        checks.same("24: none", ship(3, 1, 2, 3).twins(), 0);
        checks.same("24: one", ship(3, 1, 2, 1).twins(), 1);
        checks.same("24: three of three", ship(3, 1, 1, 1).twins(), 3);
        checks.same("24: three and two", ship(3, 1, 2, 1, 2, 1).twins(), 4);
        checks.same("24: six", ship(3, 0, 0, 0, 0, 0, 0).twins(), 15);
        checks.same("25: nobody", ship(3).shades(), 0);
        checks.same("25: 0 to 2 are one", ship(3, 0, 1, 2).shades(), 1);
        checks.same("25: 3 is another", ship(3, 0, 1, 2, 3).shades(), 2);
        checks.same("25: by 1", ship(1, 4, 5, 6, 4).shades(), 3);
        checks.same("25: by 9", ship(9, 8, 9, 17, 18, 59, 60).shades(), 4);
    }
}
