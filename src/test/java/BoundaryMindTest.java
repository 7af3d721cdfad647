import java.math.BigInteger;

/** Promises 27 to 29 and 31 to 34 at their boundaries, a test for each sentence: what is SEEN, RESTS, VOYAGES, MARKS, counts. */
public final class BoundaryMindTest {
    private static final String THREE = "greens 0;lemon 4;" + Checks.man("a", "plain", 20, 0) + Checks.man("b", "plain", 18, 0)
        + Checks.man("c", "gold", 10, 0);
    private static final String TWO = Checks.man("a", "plain", 10, 1) + Checks.man("b", "boy", 12, 1) + Checks.post("p", 3, 1) + "shade 5;harbour 4;";

    public static void main(String[] args) {
        Checks checks = new Checks();
        seeOthers(checks);
        seeNoughtToTwenty(checks);
        seeEightAtMost(checks);
        setsOthers(checks);
        setsOfNobodyAndOfSix(checks);
        setsNone(checks);
        setsOfThoseWhoDidNot(checks);
        setsGreenerOrNot(checks);
        askNoughtToTwenty(checks);
        askNoneParts(checks);
        askFirstOfEqualOnes(checks);
        restsNoughtToNine(checks);
        restsNoneSuch(checks);
        restsOfEachKind(checks);
        voyagesOthers(checks);
        voyagesEdges(checks);
        voyagesHarbours(checks);
        voyagesNobody(checks);
        drawsWrap(checks);
        voyagesStandIfHeCan(checks);
        voyagesLeaveAllAsAhead(checks);
        marksNoneSuch(checks);
        marksNothingOnIt(checks);
        marksHold(checks);
        marksNothingCanBeUndone(checks);
        marksHoldFullThings(checks);
        marksHoldEachThingSeen(checks);
        countOthers(checks);
        countBounds(checks);
        checks.end();
    }

    private static void seeOthers(Checks checks) {
        checks.sentence(27, "false: others, the same");
        int[][] wrong = {{0, 0}, {1, 1}, {2, 2}, {-1, 0}, {0, -1}, {3, 0}, {0, 3}, {6, 0}, {0, 32}, {-1, -1}, {3, 3},
            {Integer.MIN_VALUE, 0}, {0, Integer.MAX_VALUE}};
        for (int[] pair : wrong) {
            GreenButtons navy = Checks.launched(THREE);
            checks.refused("see(" + pair[0] + ", " + pair[1] + ", 0, true)", navy, () -> navy.see(pair[0], pair[1], 0, true) ? 1 : 0, 0);
            checks.refused("see(" + pair[0] + ", " + pair[1] + ", 0, false)", navy, () -> navy.see(pair[0], pair[1], 0, false) ? 1 : 0, 0);
        }
        checks.isNot("nobody", new GreenButtons().see(0, 1, 0, true));
    }

    private static void seeNoughtToTwenty(Checks checks) {
        checks.sentence(27, "SEEN: that behind so many (0 to 20) WATCHES from now");
        for (int watches = 0; watches <= 20; watches++) {
            checks.is("see(0, 1, " + watches + ", true)", Checks.launched(THREE).see(0, 1, watches, true));
        }
        for (int watches : new int[] {-1, 21, 22, Integer.MIN_VALUE, Integer.MAX_VALUE}) {
            GreenButtons navy = Checks.launched(THREE);
            checks.refused("see(0, 1, " + watches + ", true)", navy, () -> navy.see(0, 1, watches, true) ? 1 : 0, 0);
        }
        String chase = "greens 1;lemon 1;" + Checks.man("a", "plain", 0, 0) + Checks.man("b", "gold", 20, 0);
        GreenButtons last = Checks.launched(chase);
        last.see(0, 1, 20, true);
        checks.same("behind 20 a has 20, b has 19 by a lemon", last.sets(0), 2);
        checks.same("b did in all", last.sets(1), 2);
        GreenButtons less = Checks.launched(chase);
        less.see(0, 1, 19, true);
        checks.same("behind 19 by none", less.sets(0), 0);
        GreenButtons now = Checks.launched(chase);
        now.see(1, 0, 0, true);
        checks.same("behind 0 all", now.sets(0), 4);
    }

    private static void seeEightAtMost(Checks checks) {
        checks.sentence(27, "8 at most; false: 8 there are");
        GreenButtons navy = Checks.launched(THREE);
        for (int i = 1; i <= 8; i++) {
            checks.is("see " + i, navy.see(0, 2, i, i < 8));
            checks.same("seen " + i, navy.count(10), i);
        }
        checks.same("the eighth counts", navy.sets(0), 0);
        checks.refused("a ninth", navy, () -> navy.see(0, 1, 0, true) ? 1 : 0, 0);
        checks.refused("a ninth of the same", navy, () -> navy.see(0, 2, 1, true) ? 1 : 0, 0);
        Checks.ship(navy, THREE);
        checks.is("the next ship has room", navy.see(0, 1, 0, true));
        checks.same("for one", navy.count(10), 1);
    }

    private static void setsOthers(Checks checks) {
        checks.sentence(28, "SETS, what 0, 1, 2; NONE: others");
        GreenButtons navy = Checks.launched(THREE);
        int[] due = {8, 0, 7};
        for (int what = 0; what < 3; what++) {
            checks.same("sets(" + what + ")", navy.sets(what), due[what]);
        }
        for (int what : new int[] {-2, -1, 3, 4, Integer.MIN_VALUE, Integer.MAX_VALUE}) {
            checks.same("sets(" + what + ")", navy.sets(what), -1);
        }
    }

    private static void setsOfNobodyAndOfSix(Checks checks) {
        checks.sentence(28, "SETS of these by which all SEEN is so: how many; those in all, in some (bits)");
        GreenButtons nobody = new GreenButtons();
        checks.same("nobody: the empty one", nobody.sets(0), 1);
        checks.same("nobody in all", nobody.sets(1), 0);
        checks.same("nobody in some", nobody.sets(2), 0);
        StringBuilder text = new StringBuilder("greens 0;lemon 1;");
        for (char name = 'a'; name < 'g'; name++) {
            text.append(Checks.man(String.valueOf(name), "plain", 10, 0));
        }
        GreenButtons six = Checks.launched(text.toString());
        checks.same("six", six.sets(0), 64);
        checks.same("six in all", six.sets(1), 0);
        checks.same("six in some", six.sets(2), 63);
        for (int man = 0; man < 5; man++) {
            six.see(5, man, 0, true);
        }
        checks.same("but the sixth", six.sets(0), 1);
        checks.same("five in all", six.sets(1), 31);
        checks.same("five in some", six.sets(2), 31);
    }

    private static void setsNone(Checks checks) {
        checks.sentence(28, "NONE: no set (but 0)");
        GreenButtons navy = Checks.launched(THREE);
        navy.see(2, 0, 0, true);
        checks.same("sets(0)", navy.sets(0), 0);
        checks.same("sets(1)", navy.sets(1), -1);
        checks.same("sets(2)", navy.sets(2), -1);
        checks.same("ask(0)", navy.ask(0), -1);
    }

    private static void setsOfThoseWhoDidNot(Checks checks) {
        checks.sentence(28, "some who did not SUCK yet, unknown ones, having done so now");
        GreenButtons navy = Checks.launched(THREE);
        navy.suck(2);
        checks.same("c did: sets of a and b", navy.sets(0), 4);
        checks.same("c is in none", navy.sets(2), 3);
        navy.suck(0);
        navy.suck(1);
        checks.same("all did: the empty one", navy.sets(0), 1);
        checks.same("in all: nobody", navy.sets(1), 0);
        checks.same("in some: nobody", navy.sets(2), 0);
        GreenButtons low = Checks.launched("greens 0;lemon 4;" + Checks.man("a", "plain", 3, 0) + Checks.man("b", "plain", 0, 0));
        low.see(0, 1, 0, false);
        checks.same("0 at least: as green as b", low.sets(0), 2);
        checks.same("a did", low.sets(1), 1);
        checks.same("b did, or not", low.sets(2), 3);
    }

    private static void setsGreenerOrNot(Checks checks) {
        checks.sentence(28, "a MAN is greener than another one, or is not");
        GreenButtons navy = Checks.launched("greens 0;lemon 4;" + Checks.man("a", "plain", 10, 0) + Checks.man("b", "plain", 6, 0));
        navy.see(0, 1, 0, true);
        checks.same("10 or 6 above 6 or 2: not as green as", navy.sets(0), 3);
        GreenButtons not = Checks.launched("greens 0;lemon 4;" + Checks.man("a", "plain", 10, 0) + Checks.man("b", "plain", 6, 0));
        not.see(0, 1, 0, false);
        checks.same("as green as is not greener", not.sets(0), 1);
        checks.same("a alone", not.sets(1), 1);
    }

    private static void askNoughtToTwenty(Checks checks) {
        checks.sentence(29, "ASK at so many WATCHES (0 to 20); NONE: others");
        for (int watches = 0; watches <= 20; watches++) {
            checks.same("ask(" + watches + ")", Checks.launched(THREE).ask(watches), 1);
        }
        for (int watches : new int[] {-1, 21, 22, Integer.MIN_VALUE, Integer.MAX_VALUE}) {
            GreenButtons navy = Checks.launched(THREE);
            checks.refused("ask(" + watches + ")", navy, () -> navy.ask(watches), -1);
        }
        String chase = "greens 1;lemon 1;" + Checks.man("a", "plain", 0, 0) + Checks.man("b", "gold", 20, 0);
        checks.same("at 20 a has 20, b 20 or 19", Checks.launched(chase).ask(20), 1);
        checks.same("at 19 b is greener, or is not: 19, 20 or 19", Checks.launched(chase).ask(19), 8);
        checks.same("at 18 b is greener", Checks.launched(chase).ask(18), -1);
    }

    private static void askNoneParts(Checks checks) {
        checks.sentence(29, "if that is less than all; NONE: none parts them");
        checks.same("nobody", new GreenButtons().ask(0), -1);
        checks.same("one alone", Checks.launched(Checks.man("a", "plain", 10, 0)).ask(0), -1);
        GreenButtons far = Checks.launched("greens 0;lemon 4;" + Checks.man("a", "plain", 10, 0) + Checks.man("b", "plain", 5, 0));
        checks.same("a is greener by all", far.ask(0), -1);
        GreenButtons one = Checks.launched("greens 0;lemon 5;" + Checks.man("a", "plain", 10, 0) + Checks.man("b", "plain", 5, 0));
        checks.same("but by one of four", one.ask(0), 1);
        one.see(0, 1, 0, false);
        checks.same("one set is left", one.sets(0), 1);
        checks.same("nothing parts one", one.ask(0), -1);
        GreenButtons two = Checks.launched("greens 0;lemon 4;" + Checks.man("a", "plain", 10, 0) + Checks.man("b", "plain", 12, 0));
        two.suck(1);
        checks.same("nobody, or a: two sets", two.sets(0), 2);
        checks.same("that of nobody is one", two.ask(0), 1);
        checks.same("at any watch", one.ask(20), -1);
    }

    private static void askFirstOfEqualOnes(Checks checks) {
        checks.sentence(29, "by which the greater number of SETS that say so is the least; of equal ones the first by the first one, then the other one");
        GreenButtons twins = Checks.launched("greens 0;lemon 4;" + Checks.man("a", "plain", 10, 0) + Checks.man("b", "plain", 10, 0));
        checks.same("0, 1 ahead of 1, 0", twins.ask(0), 1);
        GreenButtons later = Checks.launched("greens 0;lemon 4;" + Checks.man("a", "plain", 60, 0) + Checks.man("b", "plain", 10, 0)
            + Checks.man("c", "plain", 10, 0));
        checks.same("1, 2 ahead of 2, 1", later.ask(0), 8 + 2);
        GreenButtons better = Checks.launched("greens 0;lemon 4;" + Checks.man("a", "plain", 20, 0) + Checks.man("b", "plain", 17, 0)
            + Checks.man("c", "plain", 17, 0));
        checks.same("a, b by 6 of 8; a, c by 6 of 8; b, c by 6 of 8: the first", better.ask(0), 1);
        better.see(0, 1, 0, true);
        better.see(0, 2, 0, true);
        checks.same("then b, c", better.ask(0), 8 + 2);
        GreenButtons half = Checks.launched("greens 0;lemon 4;" + Checks.man("a", "plain", 20, 0) + Checks.man("b", "plain", 17, 0)
            + Checks.man("c", "gold", 3, 0) + Checks.man("d", "gold", 0, 0));
        half.see(0, 1, 0, true);
        checks.same("c, d by a half ahead of all others", half.ask(0), 16 + 3);
        GreenButtons four = Checks.launched("greens (now < 5) * 9;lemon 6;" + Checks.man("a", "plain", 11, 0) + Checks.man("b", "plain", 10, 0)
            + Checks.man("c", "gold", 14, 0));
        four.suck(2);
        checks.same("a, b by that of nobody alone, a, c by 2 of 4", four.ask(1), 2);
        GreenButtons both = Checks.launched("greens (now < 9) * 3;lemon 2;" + Checks.man("a", "plain", 10, 0) + Checks.man("b", "plain", 12, 0));
        checks.same("a, b by that of both alone, b, a by 2 of 4", both.ask(1), 8);
        GreenButtons last = Checks.launched("greens 0;lemon 1;" + Checks.man("a", "plain", 60, 0) + Checks.man("b", "plain", 50, 0)
            + Checks.man("c", "plain", 40, 0) + Checks.man("d", "plain", 30, 0) + Checks.man("e", "plain", 10, 0) + Checks.man("f", "plain", 11, 0));
        checks.same("the last pair", last.ask(0), 40 + 4);
    }

    private static void restsNoughtToNine(Checks checks) {
        checks.sentence(31, "each loses so much (0 to 9), he gets so much (0 to 9), the other one loses so much (0 to 9)");
        GreenButtons navy = new GreenButtons();
        for (int number : new int[] {0, 9}) {
            checks.is("both " + number, Checks.rests(navy, number, 1, 1, -1) >= 0);
            checks.is("gets " + number, Checks.rests(navy, 1, number, 1, -1) >= 0);
            checks.is("loses " + number, Checks.rests(navy, 1, 1, number, -1) >= 0);
        }
        for (int number : new int[] {-1, 10, 11, Integer.MIN_VALUE, Integer.MAX_VALUE}) {
            for (int what = -1; what < 4; what++) {
                checks.same("both " + number + " at " + what, Checks.rests(navy, number, 1, 1, what), Checks.THROWN);
                checks.same("gets " + number + " at " + what, Checks.rests(navy, 1, number, 1, what), Checks.THROWN);
                checks.same("loses " + number + " at " + what, Checks.rests(navy, 1, 1, number, what), Checks.THROWN);
            }
        }
    }

    private static void restsNoneSuch(Checks checks) {
        checks.sentence(31, "NoSuchElementException: others, none such");
        GreenButtons four = new GreenButtons();
        for (int i = 0; i < 4; i++) {
            checks.same("four, at " + i, Checks.rests(four, 0, 0, 0, i), i);
        }
        checks.same("four", Checks.rests(four, 0, 0, 0, -1), 4);
        checks.same("four, at 4", Checks.rests(four, 0, 0, 0, 4), Checks.THROWN);
        checks.same("one, at 0", Checks.rests(four, 0, 9, 9, 0), 3);
        checks.same("one, at 1", Checks.rests(four, 0, 9, 9, 1), Checks.THROWN);
        for (int what : new int[] {-2, -3, 5, Integer.MIN_VALUE, Integer.MAX_VALUE}) {
            checks.same("at " + what, Checks.rests(four, 0, 0, 0, what), Checks.THROWN);
        }
        checks.same("nothing is done by it", four.count(11), 0);
    }

    /** The first sucks and the other does not: kept if none gains; and so on. All games of the document are looked at. */
    private static void restsOfEachKind(Checks checks) {
        checks.sentence(31, "RESTS: by which neither would get more by the other (the least first)");
        for (int both = 0; both <= 9; both++) {
            for (int gets = 0; gets <= 9; gets++) {
                GreenButtons navy = new GreenButtons();
                for (int loses = 0; loses <= 9; loses++) {
                    boolean none = gets <= 0;
                    boolean one = loses <= both && gets >= 0;
                    boolean two = both <= loses;
                    int at = 0;
                    String game = both + ", " + gets + ", " + loses + " at ";
                    int[] due = {none ? 0 : -1, one ? 1 : -1, one ? 2 : -1, two ? 3 : -1};
                    for (int choices : due) {
                        if (choices >= 0) {
                            checks.same(game + at, Checks.rests(navy, both, gets, loses, at), choices);
                            at++;
                        }
                    }
                    checks.same(game + "-1", Checks.rests(navy, both, gets, loses, -1), at);
                    checks.same(game + at, Checks.rests(navy, both, gets, loses, at), Checks.THROWN);
                }
            }
        }
    }

    private static void voyagesOthers(Checks checks) {
        checks.sentence(32, "VOYAGES by a SEED (0 to 9999) of so many WATCHES (1 to 99); -2: others");
        int[][] wrong = {{-1, 1, 0}, {10000, 1, 0}, {Integer.MIN_VALUE, 1, 0}, {Integer.MAX_VALUE, 1, 0}, {0, 0, 0}, {0, -1, 0}, {0, 100, 0},
            {0, Integer.MIN_VALUE, 0}, {0, Integer.MAX_VALUE, 0}, {0, 1, -1}, {0, 1, -2}, {0, 1, 3}, {0, 1, Integer.MIN_VALUE}, {0, 1, Integer.MAX_VALUE}};
        for (int[] call : wrong) {
            GreenButtons navy = Checks.launched(TWO);
            checks.refused("voyages(" + call[0] + ", " + call[1] + ", " + call[2] + ")", navy, () -> navy.voyages(call[0], call[1], call[2]), -2);
            checks.same("nobody's", new GreenButtons().voyages(call[0], call[1], call[2]), -2);
        }
    }

    /** Two gold men and no post: only falling in changes them, and each draw can be followed by hand. */
    private static int[] followed(int seed, int watches, int men, int first) {
        BigInteger g = BigInteger.valueOf(seed);
        int[] green = new int[men];
        green[0] = first;
        int turns = 0;
        for (int watch = 0; watch < watches; watch++) {
            int ahead = leader(green);
            int[] draws = new int[3];
            for (int i = 0; i < 3; i++) {
                g = g.multiply(BigInteger.valueOf(1103515245)).add(BigInteger.valueOf(12345)).mod(BigInteger.valueOf(2147483648L));
                draws[i] = g.divide(BigInteger.valueOf(65536)).intValueExact();
            }
            if (draws[2] % 20 == 1) {
                int most = 0;
                for (int one : green) {
                    most = Math.max(most, one);
                }
                green[draws[0] % men] = Math.min(99, most + 1);
            }
            turns += leader(green) != ahead ? 1 : 0;
        }
        int sum = 0;
        for (int one : green) {
            sum += one;
        }
        return new int[] {turns, leader(green), sum};
    }

    private static int leader(int[] green) {
        int found = -1;
        for (int man = 0; man < green.length; man++) {
            boolean leads = true;
            for (int other = 0; other < green.length; other++) {
                leads = leads && (other == man || green[man] > green[other]);
            }
            found = leads ? man : found;
        }
        return found;
    }

    private static void drawsWrap(Checks checks) {
        checks.sentence(32, "g becomes (g * 1103515245 + 12345) modulo 2147483648; it is g / 65536, cut, modulo m");
        for (int men = 1; men <= 6; men++) {
            StringBuilder text = new StringBuilder("shade 1;harbour 9;");
            for (int i = 0; i < men; i++) {
                text.append(Checks.man(String.valueOf((char) ('a' + i)), "gold", i == 0 ? 7 : 0, 5));
            }
            for (int seed : new int[] {0, 1, 2, 65, 4095, 8192, 9998, 9999}) {
                GreenButtons navy = Checks.launched(text.toString());
                for (int watches : new int[] {1, 2, 50, 98, 99}) {
                    int[] due = followed(seed, watches, men, 7);
                    for (int what = 0; what < 3; what++) {
                        checks.same(men + " men, voyages(" + seed + ", " + watches + ", " + what + ")", navy.voyages(seed, watches, what), due[what]);
                    }
                }
            }
        }
    }

    /** One man of a green of 60, by no law: a harbour takes 1 off, a fall gives 1. */
    private static void voyagesHarbours(Checks checks) {
        checks.sentence(32, "a DRAW below 20: 0: all DOCK, 1: that MAN FALLS in");
        GreenButtons navy = Checks.launched("greens 0;shade 1;harbour 1;" + Checks.man("a", "plain", 60, 0) + Checks.man("b", "gold", 0, 0));
        GreenButtons posts = Checks.launched("greens wet;sea 1;harbour 0;shade 1;" + Checks.man("a", "plain", 0, 0) + Checks.post("p", 1, 1));
        for (int seed : new int[] {0, 3, 9999}) {
            BigInteger g = BigInteger.valueOf(seed);
            int[] green = {60, 0};
            boolean stands = false;
            int wet = 0;
            for (int watch = 1; watch <= 40; watch++) {
                int[] draws = new int[3];
                for (int i = 0; i < 3; i++) {
                    g = g.multiply(BigInteger.valueOf(1103515245)).add(BigInteger.valueOf(12345)).mod(BigInteger.valueOf(2147483648L));
                    draws[i] = g.divide(BigInteger.valueOf(65536)).intValueExact();
                }
                int mishap = draws[2] % 20;
                if (mishap == 0) {
                    green[0] = Math.max(0, green[0] - 1);
                } else if (mishap == 1) {
                    green[draws[0] % 2] = Math.min(99, Math.max(green[0], green[1]) + 1);
                }
                checks.same("voyages(" + seed + ", " + watch + ", 2)", navy.voyages(seed, watch, 2), green[0] + green[1]);
                stands = draws[1] % 2 == 0 && mishap != 0;
                wet = Math.min(99, wet + (mishap == 1 ? 1 : 0) + (stands ? 1 : 0));
                checks.same("at a post, voyages(" + seed + ", " + watch + ", 2)", posts.voyages(seed, watch, 2), wet);
            }
        }
    }

    private static void voyagesEdges(Checks checks) {
        checks.sentence(32, "so many WATCHES (1 to 99)");
        GreenButtons navy = Checks.launched("greens 1;harbour 0;shade 1;" + Checks.man("a", "plain", 0, 0));
        checks.is("1", navy.voyages(0, 1, 2) >= 1);
        int falls = 0;
        for (int watches = 1; watches <= 99; watches++) {
            int[] due = followed(9999, watches, 1, 0);
            checks.same("behind " + watches, navy.voyages(9999, watches, 2), Math.min(99, watches + due[2]));
            falls = due[2];
        }
        checks.is("some fell in", falls > 0);
    }

    private static void voyagesNobody(Checks checks) {
        checks.sentence(32, "each, if there are MEN; the CAPTAIN at last (NONE: none)");
        GreenButtons nobody = Checks.launched(Checks.post("p", 1, 1));
        checks.same("how often", nobody.voyages(9999, 99, 0), 0);
        checks.same("who", nobody.voyages(9999, 99, 1), -1);
        checks.same("greens", nobody.voyages(9999, 99, 2), 0);
        GreenButtons alike = Checks.launched("harbour 0;" + Checks.man("a", "gold", 5, 0) + Checks.man("b", "gold", 5, 0));
        checks.same("none", alike.voyages(0, 1, 1), followed(0, 1, 2, 0)[1]);
    }

    /** By a seed of 1 the draws are 16838, 5758, 10113, 17515, 31051, 5627, .. ahead of the modulus. */
    private static void voyagesStandIfHeCan(Checks checks) {
        checks.sentence(32, "he STANDS there, if he can (the last one: he goes BELOW, if he can)");
        GreenButtons navy = Checks.launched(TWO);
        checks.same("a stands at p: 10 + 3 + 1, 12 + 2", navy.voyages(1, 1, 2), 28);
        checks.same("b is below already: 14 + 4, 14 + 2", navy.voyages(1, 2, 2), 34);
        navy.stand(1, 0);
        checks.same("p is full: 10 + 1, 12 + 3 + 2", navy.voyages(1, 1, 2), 28);
        checks.same("who leads then", navy.voyages(1, 1, 1), 1);
        checks.same("b goes below: 11 + 1, 17 + 2", navy.voyages(1, 2, 2), 31);
        navy.below(1);
        navy.stand(0, 0);
        checks.same("a stands there already", navy.voyages(1, 1, 2), 28);
    }

    private static void voyagesLeaveAllAsAhead(Checks checks) {
        checks.sentence(32, "from now on (all is as ahead then)");
        GreenButtons navy = Checks.launched(TWO);
        Checks.voyage(navy, "watch;");
        navy.see(0, 1, 2, false);
        navy.stand(0, 0);
        navy.watch();
        String ahead = Checks.state(navy);
        int first = navy.voyages(77, 99, 2);
        checks.same("the same seed", navy.voyages(77, 99, 2), first);
        checks.is("all stays", Checks.state(navy).equals(ahead));
        checks.is("it is undone as ahead", navy.undo() && navy.undo() && !navy.undo());
    }

    private static void marksNoneSuch(Checks checks) {
        checks.sentence(33, "MARKS 0 to 3; false: none such");
        for (int mark : new int[] {-1, 4, 5, 32, Integer.MIN_VALUE, Integer.MAX_VALUE}) {
            GreenButtons navy = Checks.launched(TWO);
            navy.watch();
            checks.refused("mark(" + mark + ", false)", navy, () -> navy.mark(mark, false) ? 1 : 0, 0);
            checks.refused("mark(" + mark + ", true)", navy, () -> navy.mark(mark, true) ? 1 : 0, 0);
        }
        GreenButtons navy = Checks.launched(TWO);
        for (int mark = 0; mark < 4; mark++) {
            checks.is("mark(" + mark + ", false)", navy.mark(mark, false));
            navy.watch();
        }
        for (int mark = 3; mark >= 0; mark--) {
            checks.is("mark(" + mark + ", true)", navy.mark(mark, true));
            checks.same("its watch, " + mark, navy.count(5), mark);
        }
    }

    private static void marksNothingOnIt(Checks checks) {
        checks.sentence(33, "false: nothing is on it (back)");
        for (int laid = 0; laid < 4; laid++) {
            GreenButtons navy = Checks.launched(TWO);
            navy.watch();
            navy.mark(laid, false);
            for (int mark = 0; mark < 4; mark++) {
                int back = mark;
                if (mark != laid) {
                    checks.refused("mark(" + mark + ", true), " + laid + " being laid", navy, () -> navy.mark(back, true) ? 1 : 0, 0);
                }
            }
            checks.is("mark(" + laid + ", true)", navy.mark(laid, true));
            checks.is("mark(" + laid + ", true) again", navy.mark(laid, true));
            Checks.ship(navy, "?");
            checks.is("it stays by a fault", navy.mark(laid, true));
            Checks.ship(navy, TWO);
            checks.isNot("not on the next ship", navy.mark(laid, true));
        }
        GreenButtons nobody = new GreenButtons();
        checks.isNot("nothing at first", nobody.mark(0, true));
        checks.is("laid without a ship", nobody.mark(0, false));
        nobody.watch();
        checks.is("gone back to", nobody.mark(0, true));
        checks.same("the watch", nobody.count(5), 0);
    }

    private static void marksHold(Checks checks) {
        checks.sentence(33, "MARKS hold how it is, the VOYAGE, what is SEEN");
        GreenButtons navy = Checks.launched(TWO);
        Checks.voyage(navy, "below a;watch;");
        navy.see(0, 1, 0, true);
        navy.stand(0, 0);
        navy.suck(1);
        navy.watch();
        navy.mark(1, false);
        navy.undo();
        navy.undo();
        navy.undo();
        String empty = Checks.state(navy);
        checks.is("back", navy.mark(1, true));
        checks.same("watch", navy.count(5), 1);
        checks.same("post", navy.man(0, 3), 0);
        checks.same("green of a", navy.man(0, 2), 14);
        checks.same("green of b", navy.man(1, 2), 9);
        checks.same("lemon", navy.man(1, 4), 1);
        checks.isNot("it is not as it was ahead of going back", Checks.state(navy).equals(empty));
        String held = Checks.state(navy);
        Checks.voyage(navy, "dock;");
        navy.see(1, 0, 3, true);
        navy.dock();
        navy.fall(1);
        checks.is("back again", navy.mark(1, true));
        checks.is("all is as held", Checks.state(navy).equals(held));
        navy.mark(2, false);
        navy.watch();
        navy.mark(1, false);
        navy.mark(2, true);
        checks.is("each holds its own", Checks.state(navy).equals(held));
        navy.mark(1, true);
        checks.same("laid anew", navy.count(5), 2);
        Checks.feedText(navy, "abc");
        navy.mark(2, true);
        checks.same("the TAPE is not held", navy.count(12), 3);
    }

    private static void marksNothingCanBeUndone(Checks checks) {
        checks.sentence(33, "nothing can be undone when one is gone back to");
        GreenButtons navy = Checks.launched(TWO);
        for (int i = 0; i < 20; i++) {
            navy.watch();
        }
        navy.mark(0, false);
        checks.same("laying one leaves what can be", navy.count(11), 16);
        checks.is("undo()", navy.undo());
        navy.mark(0, true);
        checks.same("none", navy.count(11), 0);
        checks.refused("undo()", navy, () -> navy.undo() ? 1 : 0, 0);
        for (int i = 1; i <= 16; i++) {
            navy.watch();
            checks.same("then " + i, navy.count(11), i);
        }
        for (int i = 1; i <= 16; i++) {
            checks.is("undo " + i, navy.undo());
            checks.same("watches " + i, navy.count(5), 36 - i);
        }
        checks.isNot("not beyond the mark", navy.undo());
        checks.isNot("a refused going back", navy.mark(3, true));
        navy.watch();
        checks.isNot("nothing on it", navy.mark(3, true));
        checks.same("leaves what can be", navy.count(11), 1);
    }

    private static void marksHoldFullThings(Checks checks) {
        checks.sentence(33, "MARKS hold the VOYAGE, what is SEEN: 40 lines, 8 at most");
        GreenButtons navy = Checks.launched(TWO);
        navy.mark(0, false);
        Checks.voyage(navy, "watch;".repeat(39) + "below b;");
        for (int i = 0; i < 8; i++) {
            navy.see(1, 0, i, i < 7);
        }
        int sets = navy.sets(0);
        navy.mark(3, false);
        navy.mark(0, true);
        checks.same("no line", navy.count(9), 0);
        checks.same("nothing is seen", navy.count(10), 0);
        checks.is("there is room", navy.see(0, 1, 0, true));
        Checks.voyage(navy, "dock;".repeat(40));
        navy.mark(3, true);
        checks.same("forty lines", navy.count(9), 40);
        checks.same("the fortieth", navy.judged(0), 39);
        checks.same("eight are seen", navy.count(10), 8);
        checks.same("the same sets", navy.sets(0), sets);
        checks.isNot("no room", navy.see(0, 1, 0, true));
    }

    /** Each thing SEEN parts the sets in another way, so a mark that mixed up one part of it would answer otherwise. */
    private static void marksHoldEachThingSeen(Checks checks) {
        checks.sentence(33, "MARKS hold what is SEEN");
        String ship = "greens sweat;lemon 4;" + Checks.man("a", "plain", 20, 1) + Checks.man("b", "plain", 19, 2) + Checks.man("c", "plain", 17, 0);
        int[][] seen = {{0, 1, 0, 1}, {1, 0, 0, 1}, {2, 0, 0, 1}, {0, 2, 0, 1}, {0, 2, 0, 0}, {1, 0, 3, 1}, {1, 0, 3, 0}, {2, 1, 0, 1}, {1, 2, 6, 0}};
        for (int[] held : seen) {
            for (int[] other : seen) {
                GreenButtons alone = Checks.launched(ship);
                alone.see(held[0], held[1], held[2], held[3] == 1);
                GreenButtons navy = Checks.launched(ship);
                navy.mark(1, false);
                navy.see(held[0], held[1], held[2], held[3] == 1);
                navy.mark(0, false);
                navy.mark(1, true);
                navy.see(other[0], other[1], other[2], other[3] == 1);
                navy.mark(0, true);
                for (int what = 0; what < 3; what++) {
                    checks.same("sets(" + what + ")", navy.sets(what), alone.sets(what));
                }
            }
        }
    }

    private static void countOthers(Checks checks) {
        checks.sentence(34, "NONE for another what");
        GreenButtons navy = Checks.launched(TWO);
        for (int what : new int[] {-2, -1, 13, 14, 16, Integer.MIN_VALUE, Integer.MAX_VALUE}) {
            checks.same("count(" + what + ")", navy.count(what), -1);
            checks.same("nobody's count(" + what + ")", new GreenButtons().count(what), -1);
        }
    }

    private static void countBounds(Checks checks) {
        checks.sentence(34, "What 0: MEN, .., 12: signs on the TAPE");
        StringBuilder text = new StringBuilder("sea 3 2;shade 9;lemon 20;harbour 9;greens 9;");
        for (char name = 'a'; name < 'g'; name++) {
            text.append(Checks.man(String.valueOf(name), "plain", 60, 5));
        }
        for (char name = 'p'; name < 't'; name++) {
            text.append(Checks.post(String.valueOf(name), 9, 6));
        }
        GreenButtons navy = Checks.launched(text.toString());
        checks.same("greens as told", navy.count(7), 360);
        checks.same("all below", navy.count(8), 63);
        Checks.voyage(navy, "dock;".repeat(40));
        for (int i = 0; i < 17; i++) {
            navy.watch();
        }
        for (int i = 0; i < 8; i++) {
            navy.see(0, 1, 0, true);
        }
        for (int man = 0; man < 5; man++) {
            navy.stand(man, 3);
        }
        Checks.feedText(navy, " ".repeat(1003));
        int[] due = {6, 4, 9, 20, 9, 17, 2, 594, 32, 40, 8, 16, 1000};
        for (int what = 0; what < due.length; what++) {
            checks.same("count(" + what + ")", navy.count(what), due[what]);
        }
    }
}
