/** Promises 5 to 17, 24 and 25 at their boundaries, a test for each sentence: how it is on the ship, and what is done by hand. */
public final class BoundaryHandsTest {
    private static final String SHIP = Checks.man("a", "plain", 10, 1) + Checks.man("b", "cook", 12, 2) + Checks.man("c", "boy", 3, 2)
        + Checks.man("d", "gold", 20, 5) + Checks.post("p", 3, 1) + Checks.post("q", 1, 2) + "sea 1 0 2;shade 4;lemon 6;harbour 5;";
    private static final int[] NO_MEN = {-1, 4, 5, 6, 31, 32, 33, Integer.MIN_VALUE, Integer.MAX_VALUE};

    public static void main(String[] args) {
        Checks checks = new Checks();
        manOthers(checks);
        manBelowAndRank(checks);
        postOthers(checks);
        postBits(checks);
        standOthers(checks);
        standWhereHeStands(checks);
        standIfFewerThanItHolds(checks);
        belowOthers(checks);
        suckAtLeastNothing(checks);
        suckOnce(checks);
        fallNinetyNineAtMost(checks);
        fallOthers(checks);
        watchNoughtToNine(checks);
        watchNinetyNineAtMost(checks);
        watchButGoldOnes(checks);
        watchAsItWasAhead(checks);
        watchWet(checks);
        watchesOver(checks);
        dockAtLeastNothing(checks);
        dockAllGoBelow(checks);
        undoTheLastSixteen(checks);
        undoAllOfThese(checks);
        undoNothing(checks);
        judgedOthers(checks);
        judgedLines(checks);
        judgedAlwaysCan(checks);
        judgedCaptains(checks);
        judgedGreenest(checks);
        judgedChangesNothing(checks);
        captainOfAll(checks);
        arguesLessThanAShade(checks);
        salutesTwoShades(checks);
        twins(checks);
        shades(checks);
        checks.end();
    }

    private static GreenButtons greens(int shade, int... greens) {
        StringBuilder text = new StringBuilder("shade " + shade + ";");
        for (int i = 0; i < greens.length; i++) {
            text.append(Checks.man(String.valueOf((char) ('a' + i)), "plain", greens[i], 0));
        }
        return Checks.launched(text.toString());
    }

    private static void manOthers(Checks checks) {
        checks.sentence(5, "-2: others");
        GreenButtons navy = Checks.launched(SHIP);
        for (int what = 0; what <= 5; what++) {
            for (int man : NO_MEN) {
                checks.same("man(" + man + ", " + what + ")", navy.man(man, what), -2);
            }
        }
        for (int what : new int[] {-1, 6, 7, Integer.MIN_VALUE, Integer.MAX_VALUE}) {
            checks.same("man(0, " + what + ")", navy.man(0, what), -2);
            checks.same("man(3, " + what + ")", navy.man(3, what), -2);
        }
        checks.same("nobody", new GreenButtons().man(0, 0), -2);
    }

    private static void manBelowAndRank(Checks checks) {
        checks.sentence(5, "3: the POST (NONE: below), 4: 1 he did SUCK, 5: RANK: how many are greener (0: nobody)");
        GreenButtons navy = greens(3, 7, 9, 7, 0, 60, 9);
        int[] ranks = {3, 1, 3, 5, 0, 1};
        for (int man = 0; man < 6; man++) {
            checks.same("below, " + man, navy.man(man, 3), -1);
            checks.same("no lemon, " + man, navy.man(man, 4), 0);
            checks.same("rank, " + man, navy.man(man, 5), ranks[man]);
        }
        navy.suck(5);
        checks.same("a lemon", navy.man(5, 4), 1);
        checks.same("rank then", navy.man(5, 5), 4);
        checks.same("alone", greens(3, 0).man(0, 5), 0);
        GreenButtons kinds = Checks.launched(SHIP);
        for (int man = 0; man < 4; man++) {
            checks.same("kind of " + man, kinds.man(man, 0), man);
        }
    }

    private static void postOthers(Checks checks) {
        checks.sentence(6, "NONE: others");
        GreenButtons navy = Checks.launched(SHIP);
        for (int what = 0; what <= 2; what++) {
            for (int post : new int[] {-1, 2, 3, 4, Integer.MIN_VALUE, Integer.MAX_VALUE}) {
                checks.same("post(" + post + ", " + what + ")", navy.post(post, what), -1);
            }
        }
        for (int what : new int[] {-1, 3, Integer.MIN_VALUE, Integer.MAX_VALUE}) {
            checks.same("post(0, " + what + ")", navy.post(0, what), -1);
            checks.same("post(1, " + what + ")", navy.post(1, what), -1);
        }
        checks.same("none", new GreenButtons().post(0, 0), -1);
    }

    private static void postBits(Checks checks) {
        checks.sentence(6, "2: who stands there, as bits");
        StringBuilder text = new StringBuilder(Checks.post("p", 1, 6) + Checks.post("q", 1, 6));
        for (char name = 'a'; name < 'g'; name++) {
            text.append(Checks.man(String.valueOf(name), "plain", 1, 1));
        }
        GreenButtons navy = Checks.launched(text.toString());
        checks.same("empty", navy.post(0, 2), 0);
        for (int man = 0; man < 6; man++) {
            checks.is("stand " + man, navy.stand(man, 0));
            checks.same("with " + man, navy.post(0, 2), (2 << man) - 1);
        }
        checks.same("full", navy.post(0, 2), 63);
        checks.same("nobody is below", navy.count(8), 0);
        checks.same("the other one is empty", navy.post(1, 2), 0);
        navy.stand(5, 1);
        checks.same("one less", navy.post(0, 2), 31);
        checks.same("one more", navy.post(1, 2), 32);
    }

    private static void standOthers(Checks checks) {
        checks.sentence(7, "false: others");
        for (int man : NO_MEN) {
            GreenButtons navy = Checks.launched(SHIP);
            checks.refused("stand(" + man + ", 0)", navy, () -> navy.stand(man, 0) ? 1 : 0, 0);
        }
        for (int post : new int[] {-2, -1, 2, 3, 4, Integer.MIN_VALUE, Integer.MAX_VALUE}) {
            GreenButtons navy = Checks.launched(SHIP);
            navy.stand(3, 1);
            checks.refused("stand(0, " + post + ")", navy, () -> navy.stand(0, post) ? 1 : 0, 0);
            checks.refused("stand(3, " + post + ")", navy, () -> navy.stand(3, post) ? 1 : 0, 0);
        }
        checks.isNot("nobody, nowhere", new GreenButtons().stand(0, 0));
        checks.isNot("nobody", Checks.launched(Checks.post("p", 1, 1)).stand(0, 0));
        checks.isNot("nowhere", Checks.launched(Checks.man("a", "boy", 1, 1)).stand(0, 0));
    }

    private static void standWhereHeStands(Checks checks) {
        checks.sentence(7, "STAND: a MAN at a POST where he does not stand");
        GreenButtons navy = Checks.launched(SHIP);
        checks.is("stand(0, 1)", navy.stand(0, 1));
        checks.refused("stand(0, 1) again, where there is room", navy, () -> navy.stand(0, 1) ? 1 : 0, 0);
        checks.is("stand(0, 0)", navy.stand(0, 0));
        checks.refused("stand(0, 0) again", navy, () -> navy.stand(0, 0) ? 1 : 0, 0);
        checks.is("stand(0, 1) then", navy.stand(0, 1));
        checks.same("he left the other one", navy.post(0, 2), 0);
    }

    private static void standIfFewerThanItHolds(Checks checks) {
        checks.sentence(7, "if fewer than it holds do");
        for (int holds = 1; holds <= 6; holds++) {
            StringBuilder text = new StringBuilder(Checks.post("p", 1, holds) + Checks.post("q", 1, 6));
            for (char name = 'a'; name < 'g'; name++) {
                text.append(Checks.man(String.valueOf(name), name == 'c' ? "gold" : "plain", 1, 1));
            }
            GreenButtons navy = Checks.launched(text.toString());
            for (int man = 0; man < 6; man++) {
                checks.same("man " + man + " where " + holds + " stand", navy.stand(man, 0) ? 1 : 0, man < holds ? 1 : 0);
            }
            checks.same("who stands where " + holds + " do", navy.post(0, 2), (1 << holds) - 1);
            checks.same("undo where " + holds + " stand", navy.count(11), holds);
            navy.below(0);
            checks.same("there is room again, " + holds, navy.stand(5, 0) ? 1 : 0, holds < 6 ? 1 : 0);
            checks.is("he goes over, " + holds, navy.stand(5, 1));
        }
        GreenButtons full = Checks.launched(SHIP);
        full.stand(0, 0);
        checks.refused("a full one", full, () -> full.stand(1, 0) ? 1 : 0, 0);
        full.stand(1, 1);
        checks.refused("a full one from another post", full, () -> full.stand(1, 0) ? 1 : 0, 0);
    }

    private static void belowOthers(Checks checks) {
        checks.sentence(8, "false: others, he is");
        for (int man : NO_MEN) {
            GreenButtons navy = Checks.launched(SHIP);
            navy.stand(0, 0);
            checks.refused("below(" + man + ")", navy, () -> navy.below(man) ? 1 : 0, 0);
        }
        GreenButtons navy = Checks.launched(SHIP);
        checks.refused("he is", navy, () -> navy.below(0) ? 1 : 0, 0);
        navy.stand(0, 0);
        checks.is("he is not", navy.below(0));
        checks.same("he is then", navy.man(0, 3), -1);
        checks.refused("he is again", navy, () -> navy.below(0) ? 1 : 0, 0);
        navy.stand(3, 1);
        navy.dock();
        checks.refused("he is, in harbour", navy, () -> navy.below(3) ? 1 : 0, 0);
        checks.isNot("nobody", new GreenButtons().below(0));
    }

    private static void suckAtLeastNothing(Checks checks) {
        checks.sentence(9, "SUCK: a MAN has as much less green as a lemon takes off (0 at least)");
        GreenButtons navy = Checks.launched("lemon 6;" + Checks.man("a", "plain", 7, 0) + Checks.man("b", "cook", 6, 0)
            + Checks.man("c", "boy", 5, 0) + Checks.man("d", "gold", 0, 0) + Checks.man("e", "gold", 60, 0));
        int[] due = {1, 0, 0, 0, 54};
        for (int man = 0; man < 5; man++) {
            checks.same("suck(" + man + ")", navy.suck(man), due[man]);
            checks.same("green of " + man, navy.man(man, 2), due[man]);
        }
        GreenButtons most = Checks.launched("lemon 20;" + Checks.man("a", "plain", 20, 0) + Checks.man("b", "plain", 21, 0));
        checks.same("20 of 20", most.suck(0), 0);
        checks.same("20 of 21", most.suck(1), 1);
    }

    private static void suckOnce(Checks checks) {
        checks.sentence(9, "once; NONE: others, he did");
        GreenButtons navy = Checks.launched(SHIP);
        checks.same("suck(0)", navy.suck(0), 4);
        checks.refused("suck(0) again", navy, () -> navy.suck(0), -1);
        navy.watch();
        navy.dock();
        checks.refused("suck(0) later", navy, () -> navy.suck(0), -1);
        checks.same("another one", navy.suck(2), 0);
        checks.refused("he did, though he lost less", navy, () -> navy.suck(2), -1);
        for (int man : NO_MEN) {
            GreenButtons other = Checks.launched(SHIP);
            checks.refused("suck(" + man + ")", other, () -> other.suck(man), -1);
        }
        checks.same("nobody", new GreenButtons().suck(0), -1);
    }

    private static void fallNinetyNineAtMost(Checks checks) {
        checks.sentence(10, "FALL: as green as the greenest one, and a shade more (99 at most)");
        GreenButtons navy = Checks.launched("shade 9;" + Checks.man("a", "plain", 0, 0) + Checks.man("b", "gold", 60, 0));
        int[] due = {69, 78, 87, 96, 99, 99};
        for (int i = 0; i < due.length; i++) {
            checks.same("fall " + i, navy.fall(i % 2), due[i]);
            checks.same("green behind " + i, navy.man(i % 2, 2), due[i]);
        }
        checks.same("from 99", navy.fall(1), 99);
        GreenButtons edge = Checks.launched("shade 3;" + Checks.man("a", "plain", 60, 0));
        for (int green = 63; green <= 99; green += 3) {
            checks.same("the greenest himself", edge.fall(0), green);
        }
        checks.same("99 stays", edge.fall(0), 99);
        GreenButtons nought = Checks.launched("shade 1;" + Checks.man("a", "cook", 0, 0));
        checks.same("alone, from 0", nought.fall(0), 1);
    }

    private static void fallOthers(Checks checks) {
        checks.sentence(10, "NONE: others");
        for (int man : NO_MEN) {
            GreenButtons navy = Checks.launched(SHIP);
            checks.refused("fall(" + man + ")", navy, () -> navy.fall(man), -1);
        }
        GreenButtons nobody = new GreenButtons();
        checks.refused("nobody", nobody, () -> nobody.fall(0), -1);
    }

    private static void watchNoughtToNine(Checks checks) {
        checks.sentence(11, "so much green more as the E of greens tells (0 to 9)");
        String[] laws = {"0 - 9999", "0 - 1", "0", "1", "8", "9", "10", "9999", "0 - 9999 * 9999 * 21", "9999 * 9999 * 21"};
        int[] due = {0, 0, 0, 1, 8, 9, 9, 9, 0, 9};
        for (int i = 0; i < laws.length; i++) {
            GreenButtons navy = Checks.launched("greens " + laws[i] + ";" + Checks.man("a", "plain", 30, 0));
            navy.watch();
            checks.same("greens " + laws[i], navy.man(0, 2), 30 + due[i]);
        }
        GreenButtons usual = Checks.launched(Checks.man("a", "boy", 0, 5) + Checks.man("b", "plain", 0, 5) + Checks.post("p", 9, 2) + "sea 3 0;");
        usual.stand(0, 0);
        usual.stand(1, 0);
        usual.watch();
        checks.same("wet 27 + sweat 10", usual.man(0, 2), 9);
        usual.watch();
        checks.same("wet 0 + sweat 10", usual.man(0, 2), 18);
        checks.same("wet 0 + sweat 5", usual.man(1, 2), 14);
    }

    private static void watchNinetyNineAtMost(Checks checks) {
        checks.sentence(11, "99 at most");
        for (int rise = 1; rise <= 9; rise++) {
            GreenButtons navy = Checks.launched("greens " + rise + ";" + Checks.man("a", "plain", 60, 0) + Checks.man("b", "gold", 60, 0));
            for (int watch = 1; watch <= 41; watch++) {
                navy.watch();
                checks.same("by " + rise + " behind " + watch, navy.man(0, 2), Math.min(99, 60 + rise * watch));
            }
        }
    }

    private static void watchButGoldOnes(Checks checks) {
        checks.sentence(11, "each MAN but gold ones");
        GreenButtons navy = Checks.launched("greens 5;" + Checks.man("a", "gold", 0, 5) + Checks.man("b", "cook", 0, 0)
            + Checks.man("c", "boy", 0, 0) + Checks.man("d", "plain", 0, 0) + Checks.post("p", 9, 6));
        navy.stand(0, 0);
        navy.watch();
        int[] due = {0, 5, 5, 5};
        for (int man = 0; man < 4; man++) {
            checks.same("green of " + man, navy.man(man, 2), due[man]);
        }
    }

    private static void watchAsItWasAhead(Checks checks) {
        checks.sentence(11, "all as it was ahead; above (how many are greener than he is)");
        GreenButtons navy = Checks.launched("greens above * 3;" + Checks.man("a", "plain", 10, 0) + Checks.man("b", "plain", 11, 0)
            + Checks.man("c", "plain", 11, 0) + Checks.man("d", "gold", 12, 0));
        int[][] due = {{19, 14, 14, 12}, {19, 17, 17, 12}, {19, 20, 20, 12}};
        for (int watch = 0; watch < 3; watch++) {
            navy.watch();
            for (int man = 0; man < 4; man++) {
                checks.same("behind " + (watch + 1) + ", " + man, navy.man(man, 2), due[watch][man]);
            }
        }
        GreenButtons six = Checks.launched("greens above;" + Checks.man("a", "plain", 0, 0) + Checks.man("b", "gold", 1, 0)
            + Checks.man("c", "gold", 1, 0) + Checks.man("d", "gold", 60, 0) + Checks.man("e", "gold", 60, 0) + Checks.man("f", "gold", 60, 0));
        six.watch();
        checks.same("five above", six.man(0, 2), 5);
    }

    private static void watchWet(Checks checks) {
        checks.sentence(11, "wet (the spray of his POST times the sea; 0 of a cook, of one who is below); sweat (of a boy twice as much)");
        GreenButtons navy = Checks.launched("greens wet;sea 3;" + Checks.man("a", "plain", 0, 5) + Checks.man("b", "cook", 0, 5)
            + Checks.man("c", "boy", 0, 5) + Checks.man("d", "plain", 0, 5) + Checks.post("o", 9, 1) + Checks.post("p", 2, 3) + Checks.post("q", 0, 3));
        navy.stand(0, 1);
        navy.stand(1, 1);
        navy.stand(2, 1);
        navy.watch();
        int[] due = {6, 0, 6, 0};
        for (int man = 0; man < 4; man++) {
            checks.same("wet of " + man, navy.man(man, 2), due[man]);
        }
        navy.stand(0, 2);
        navy.watch();
        checks.same("spray 0", navy.man(0, 2), 6);
        greatestFacts(checks);
        GreenButtons sweat = Checks.launched("greens sweat;" + Checks.man("a", "plain", 0, 4) + Checks.man("b", "cook", 0, 4)
            + Checks.man("c", "boy", 0, 4) + Checks.man("d", "boy", 0, 0));
        sweat.watch();
        int[] sweats = {4, 4, 8, 0};
        for (int man = 0; man < 4; man++) {
            checks.same("sweat of " + man, sweat.man(man, 2), sweats[man]);
        }
    }

    /** The greatest facts of one are told apart from others next to them: sweat 10, wet 27, above 5. */
    private static void greatestFacts(Checks checks) {
        String posts = Checks.post("p", 9, 6) + "sea 3;";
        GreenButtons sweat = Checks.launched("greens sweat - 2;" + Checks.man("a", "boy", 0, 5) + Checks.man("b", "plain", 1, 0));
        sweat.watch();
        checks.same("sweat 10", sweat.man(0, 2), 8);
        checks.same("sweat 0 next to it", sweat.man(1, 2), 1);
        GreenButtons wet = Checks.launched("greens wet - 20;" + Checks.man("a", "plain", 0, 1) + Checks.man("b", "plain", 0, 2) + posts);
        wet.stand(0, 0);
        wet.watch();
        checks.same("wet 27", wet.man(0, 2), 7);
        checks.same("wet 0 next to it", wet.man(1, 2), 0);
        GreenButtons above = Checks.launched("greens (above = 5) * 4 + (wet = 1) * 2;sea 1;" + Checks.man("a", "plain", 0, 0)
            + Checks.man("b", "plain", 1, 0) + Checks.man("c", "gold", 5, 0) + Checks.man("d", "gold", 5, 0) + Checks.man("e", "gold", 5, 0)
            + Checks.man("f", "gold", 5, 0) + Checks.post("p", 1, 1));
        above.stand(1, 0);
        above.watch();
        checks.same("above 5", above.man(0, 2), 4);
        checks.same("above 4, wet 1", above.man(1, 2), 3);
        above.undo();
        above.below(1);
        for (int man = 1; man < 6; man++) {
            above.suck(man);
        }
        above.stand(0, 0);
        above.watch();
        checks.same("above 0, wet 1, as green as he was by above 5", above.man(0, 2), 2);
        GreenButtons fewer = Checks.launched("greens (above = 1) * 4;lemon 1;" + Checks.man("a", "plain", 0, 0) + Checks.man("b", "gold", 1, 0)
            + Checks.post("p", 1, 1));
        fewer.watch();
        checks.same("above 1, wet 0", fewer.man(0, 2), 4);
        fewer.undo();
        fewer.suck(1);
        fewer.stand(0, 0);
        fewer.watch();
        checks.same("above 0, wet 1", fewer.man(0, 2), 0);
        GreenButtons mixed = Checks.launched("greens sweat * 3;sea 1;" + Checks.man("a", "plain", 0, 1) + Checks.man("b", "plain", 0, 0)
            + Checks.post("p", 1, 1));
        mixed.stand(1, 0);
        mixed.watch();
        checks.same("sweat 1, wet 0", mixed.man(0, 2), 3);
        checks.same("sweat 0, wet 1", mixed.man(1, 2), 0);
        GreenButtons next = Checks.launched("greens (above = 5) * 4;sea 1;" + Checks.man("b", "plain", 60, 0) + Checks.man("a", "plain", 0, 0)
            + Checks.man("c", "gold", 5, 0) + Checks.man("d", "gold", 5, 0) + Checks.man("e", "gold", 5, 0) + Checks.man("f", "gold", 5, 0));
        next.watch();
        checks.same("above 0", next.man(0, 2), 60);
        checks.same("above 5 behind it", next.man(1, 2), 4);
    }

    private static void watchesOver(Checks checks) {
        checks.sentence(11, "WATCH: how many are over then");
        GreenButtons nobody = new GreenButtons();
        for (int watch = 1; watch <= 400; watch++) {
            checks.same("nobody's " + watch, nobody.watch(), watch);
        }
        GreenButtons navy = Checks.launched(SHIP);
        checks.same("first", navy.watch(), 1);
        navy.dock();
        checks.same("second, behind a harbour", navy.watch(), 2);
        navy.undo();
        checks.same("second again, behind an undo", navy.watch(), 2);
        Checks.ship(navy, SHIP);
        checks.same("first of the next ship", navy.watch(), 1);
    }

    private static void dockAtLeastNothing(Checks checks) {
        checks.sentence(12, "DOCK: all but gold ones have so much less green (0 at least)");
        GreenButtons navy = Checks.launched("harbour 5;" + Checks.man("a", "plain", 6, 0) + Checks.man("b", "cook", 5, 0)
            + Checks.man("c", "boy", 4, 0) + Checks.man("d", "plain", 0, 0) + Checks.man("e", "gold", 3, 0));
        checks.same("dock()", navy.dock(), 4);
        int[] due = {1, 0, 0, 0, 3};
        for (int man = 0; man < 5; man++) {
            checks.same("green of " + man, navy.man(man, 2), due[man]);
        }
        checks.same("again", navy.dock(), 3);
        GreenButtons free = Checks.launched("harbour 0;" + Checks.man("a", "plain", 6, 0));
        checks.same("a harbour of 0", free.dock(), 6);
        GreenButtons nobody = new GreenButtons();
        checks.same("nobody", nobody.dock(), 0);
        checks.same("can be undone", nobody.count(11), 1);
    }

    private static void dockAllGoBelow(Checks checks) {
        checks.sentence(12, "all go below");
        GreenButtons navy = Checks.launched(SHIP);
        navy.stand(0, 0);
        navy.stand(1, 1);
        navy.stand(3, 1);
        navy.dock();
        checks.same("who is below", navy.count(8), 15);
        checks.same("p is empty", navy.post(0, 2), 0);
        checks.same("q is empty", navy.post(1, 2), 0);
        checks.same("gold, too", navy.man(3, 3), -1);
        checks.is("p has room", navy.stand(1, 0));
        checks.same("no watch goes by", navy.count(5), 0);
    }

    private static void undoTheLastSixteen(Checks checks) {
        checks.sentence(13, "UNDO: all of these, the last 16, one by one");
        for (int made : new int[] {0, 1, 15, 16, 17, 31, 32, 33, 50}) {
            GreenButtons navy = Checks.launched("greens 1;" + Checks.man("a", "plain", 0, 0));
            for (int i = 0; i < made; i++) {
                navy.watch();
                checks.same("of " + made + " at " + i, navy.count(11), Math.min(16, i + 1));
            }
            int undone = Math.min(16, made);
            for (int i = 1; i <= undone; i++) {
                checks.is("undo " + i + " of " + made, navy.undo());
                checks.same("watches behind " + i + " of " + made, navy.count(5), made - i);
                checks.same("green behind " + i + " of " + made, navy.man(0, 2), made - i);
                checks.same("left behind " + i + " of " + made, navy.count(11), undone - i);
            }
            checks.refused("no more of " + made, navy, () -> navy.undo() ? 1 : 0, 0);
        }
        GreenButtons round = Checks.launched("greens 1;" + Checks.man("a", "plain", 0, 0));
        for (int turn = 0; turn < 5; turn++) {
            for (int i = 0; i < 9; i++) {
                round.watch();
            }
            for (int i = 0; i < 6; i++) {
                checks.is("turn " + turn + ", " + i, round.undo());
            }
            checks.same("watches of turn " + turn, round.count(5), 3 * turn + 3);
        }
        checks.same("left", round.count(11), 10);
        for (int i = 1; i <= 10; i++) {
            checks.is("round " + i, round.undo());
            checks.same("watches, round " + i, round.count(5), 15 - i);
        }
        checks.isNot("round no more", round.undo());
    }

    private static void undoAllOfThese(Checks checks) {
        checks.sentence(13, "UNDO: all of these");
        GreenButtons navy = Checks.launched(SHIP);
        navy.stand(1, 1);
        String ahead = Checks.state(navy);
        navy.stand(0, 0);
        navy.undo();
        checks.is("stand", Checks.state(navy).equals(ahead));
        navy.below(1);
        navy.undo();
        checks.is("below", Checks.state(navy).equals(ahead));
        navy.suck(1);
        navy.undo();
        checks.is("suck", Checks.state(navy).equals(ahead));
        navy.fall(2);
        navy.undo();
        checks.is("fall", Checks.state(navy).equals(ahead));
        navy.watch();
        navy.undo();
        checks.is("watch", Checks.state(navy).equals(ahead));
        navy.dock();
        navy.undo();
        checks.is("dock", Checks.state(navy).equals(ahead));
        GreenButtons six = Checks.launched(Checks.man("a", "plain", 1, 0) + Checks.man("b", "plain", 1, 0) + Checks.man("c", "plain", 1, 0)
            + Checks.man("d", "plain", 1, 0) + Checks.man("e", "plain", 1, 0) + Checks.man("f", "plain", 1, 0) + Checks.post("p", 1, 6));
        for (int man = 0; man < 6; man++) {
            six.stand(man, 0);
        }
        six.dock();
        for (int man = 5; man >= 0; man--) {
            six.undo();
            checks.same("six, who stands there with " + man, six.post(0, 2), (2 << man) - 1);
        }
        checks.same("a move from post to post", navy.stand(1, 0) ? 1 : 0, 1);
        navy.undo();
        checks.same("he stands where he stood", navy.man(1, 3), 1);
    }

    private static void undoNothing(Checks checks) {
        checks.sentence(13, "false: nothing can be");
        GreenButtons navy = Checks.launched(SHIP);
        checks.refused("a new ship", navy, () -> navy.undo() ? 1 : 0, 0);
        Checks.voyage(navy, "watch;");
        navy.see(0, 1, 1, true);
        navy.mark(0, false);
        navy.stand(9, 0);
        navy.below(0);
        navy.suck(-1);
        navy.fall(4);
        checks.refused("none of these is undone", navy, () -> navy.undo() ? 1 : 0, 0);
        checks.same("the voyage stays", navy.count(9), 1);
        checks.same("what is seen stays", navy.count(10), 1);
        navy.watch();
        navy.see(1, 0, 1, true);
        Checks.voyage(navy, "watch;dock;");
        checks.is("the watch is", navy.undo());
        checks.same("what is seen stays behind it", navy.count(10), 2);
        checks.same("the voyage stays behind it", navy.count(9), 2);
        navy.suck(0);
        navy.undo();
        checks.same("he can suck again", navy.suck(0), 4);
    }

    private static void judgedOthers(Checks checks) {
        checks.sentence(14, "-2: others");
        GreenButtons navy = Checks.launched(SHIP);
        for (int what : new int[] {-2, -1, 3, 4, Integer.MIN_VALUE, Integer.MAX_VALUE}) {
            checks.same("judged(" + what + ")", navy.judged(what), -2);
            checks.same("nobody's judged(" + what + ")", new GreenButtons().judged(what), -2);
        }
    }

    private static void judged(Checks checks, String ship, String voyage, int... due) {
        GreenButtons navy = Checks.launched(ship);
        checks.same("voyage: " + voyage, Checks.voyage(navy, voyage), 0);
        for (int what = 0; what < 3; what++) {
            checks.same("judged(" + what + ") of " + voyage, navy.judged(what), due[what]);
        }
    }

    private static void judgedLines(Checks checks) {
        checks.sentence(14, "the first line (from 0) that can't be (NONE: none); a line that can't be is left out");
        judged(checks, SHIP, "", -1, -1, 3);
        judged(checks, SHIP, "below a;", 0, -1, 3);
        judged(checks, SHIP, "stand a p;below a;below a;below a;", 2, -1, 3);
        judged(checks, SHIP, "stand a p;stand b p;stand a p;", 1, -1, 3);
        judged(checks, SHIP, "stand a q;stand a q;", 1, -1, 3);
        judged(checks, SHIP, "stand a q;stand b q;stand c q;", 2, -1, 3);
        judged(checks, SHIP, "stand a q;stand b q;stand a p;stand c q;", -1, -1, 3);
        judged(checks, SHIP, "suck a;suck b;suck a;", 2, -1, 3);
        judged(checks, SHIP, "suck d;suck d;", 1, -1, 3);
        judged(checks, SHIP, "watch;".repeat(39) + "below a;", 39, 3, 2);
        judged(checks, Checks.man("a", "plain", 9, 0) + Checks.man("b", "plain", 4, 0) + "lemon 3;", "suck a;suck a;", 1, -1, 0);
        judged(checks, Checks.man("a", "plain", 9, 0) + Checks.man("b", "plain", 4, 0) + Checks.post("p", 6, 1),
            "stand a p;stand b p;watch;", 1, -1, 0);
    }

    private static void judgedAlwaysCan(Checks checks) {
        checks.sentence(14, "a fall, a watch, a dock always can");
        judged(checks, Checks.man("a", "gold", 60, 0) + "harbour 0;shade 9;", "dock;dock;watch;" + "fall a;".repeat(7) + "watch;dock;", -1, -1, 0);
        judged(checks, "", "dock;watch;", -1, -1, -1);
    }

    private static void judgedCaptains(Checks checks) {
        checks.sentence(14, "the first one behind which another one is CAPTAIN than ahead of it (or one is, or nobody any more)");
        String two = Checks.man("a", "plain", 10, 0) + Checks.man("b", "gold", 13, 0) + "shade 1;lemon 3;";
        judged(checks, two, "watch;fall a;fall b;", -1, 1, 1);
        judged(checks, two, "watch;suck b;fall a;", -1, 1, 0);
        judged(checks, two, "suck b;", -1, 0, 0);
        judged(checks, Checks.man("a", "plain", 10, 0) + Checks.man("b", "gold", 10, 0), "watch;dock;watch;fall a;", -1, 1, 0);
        judged(checks, Checks.man("a", "plain", 0, 0) + Checks.man("b", "gold", 0, 0), "dock;watch;", -1, -1, 0);
        judged(checks, Checks.man("a", "plain", 1, 0), "dock;fall a;suck a;watch;", -1, -1, 0);
        judged(checks, two, "fall a;fall b;fall a;", -1, 0, 0);
    }

    private static void judgedGreenest(Checks checks) {
        checks.sentence(14, "who is the greenest at last, the first of equal ones; NONE: nobody");
        judged(checks, Checks.man("a", "plain", 5, 0) + Checks.man("b", "plain", 7, 0) + Checks.man("c", "plain", 7, 0), "watch;", -1, -1, 1);
        judged(checks, Checks.man("a", "plain", 7, 0) + Checks.man("b", "plain", 7, 0) + Checks.man("c", "plain", 7, 0), "suck a;", -1, -1, 1);
        judged(checks, Checks.man("a", "plain", 0, 0) + Checks.man("b", "plain", 0, 0), "", -1, -1, 0);
        judged(checks, Checks.post("p", 1, 1), "watch;", -1, -1, -1);
    }

    private static void judgedChangesNothing(Checks checks) {
        checks.sentence(14, "JUDGED: the VOYAGE from the beginning");
        GreenButtons navy = Checks.launched(SHIP);
        navy.suck(0);
        navy.stand(1, 0);
        navy.watch();
        navy.fall(2);
        Checks.voyage(navy, "suck a;stand b p;watch;fall b;below b;");
        String ahead = Checks.state(navy);
        checks.same("nothing of now bars it", navy.judged(0), -1);
        checks.same("d is captain as told, then b", navy.judged(1), 3);
        checks.same("b is the greenest", navy.judged(2), 1);
        checks.is("all stays", Checks.state(navy).equals(ahead));
        Checks.ship(navy, SHIP);
        checks.same("no VOYAGE of the next ship", navy.judged(1), -1);
        GreenButtons seas = Checks.launched(Checks.man("a", "plain", 0, 0) + Checks.man("b", "gold", 1, 0) + Checks.post("p", 2, 1) + "sea 0 1;");
        seas.watch();
        Checks.voyage(seas, "stand a p;watch;watch;");
        checks.same("by the sea of watch 0 first", seas.judged(1), 2);
    }

    private static void captainOfAll(Checks checks) {
        checks.sentence(15, "CAPTAIN: who is greener than all others; NONE: none");
        checks.same("nobody", new GreenButtons().captain(), -1);
        checks.same("one alone", greens(3, 0).captain(), 0);
        checks.same("two alike", greens(3, 0, 0).captain(), -1);
        checks.same("one more", greens(3, 0, 1).captain(), 1);
        checks.same("the first", greens(9, 60, 59, 59, 59, 59, 59).captain(), 0);
        checks.same("the last", greens(9, 59, 59, 59, 59, 59, 60).captain(), 5);
        checks.same("the first and the last alike", greens(9, 60, 59, 59, 59, 59, 60).captain(), -1);
        checks.same("six alike", greens(9, 7, 7, 7, 7, 7, 7).captain(), -1);
    }

    private static void arguesLessThanAShade(Checks checks) {
        checks.sentence(16, "Two ARGUE who are less than a shade apart; NONE: others");
        for (int shade = 1; shade <= 9; shade++) {
            GreenButtons navy = greens(shade, 30, 30, 29 + shade, 30 + shade, 31 - shade, 30 - shade);
            checks.same("shade " + shade, navy.argues(0), 2 + 4 + 16);
            checks.same("one a shade more, " + shade, navy.argues(3), shade == 1 ? 0 : 4);
        }
        checks.same("alone", greens(9, 5).argues(0), 0);
        checks.same("all six", greens(9, 5, 5, 5, 5, 5, 5).argues(5), 31);
        GreenButtons navy = Checks.launched(SHIP);
        for (int man : NO_MEN) {
            checks.same("argues(" + man + ")", navy.argues(man), -1);
        }
        checks.same("nobody", new GreenButtons().argues(0), -1);
    }

    private static void salutesTwoShades(Checks checks) {
        checks.sentence(17, "one SALUTES each who is two shades greener, or more; NONE: others");
        for (int shade = 1; shade <= 9; shade++) {
            GreenButtons navy = greens(shade, 30, 29 + 2 * shade, 30 + 2 * shade, 31 + 2 * shade, 30, 30 - 2 * shade);
            checks.same("shade " + shade, navy.salutes(0), 4 + 8);
            checks.same("the least, shade " + shade, navy.salutes(5), 31);
            checks.same("the greatest, shade " + shade, navy.salutes(3), 0);
        }
        checks.same("alone", greens(9, 5).salutes(0), 0);
        GreenButtons navy = Checks.launched(SHIP);
        for (int man : NO_MEN) {
            checks.same("salutes(" + man + ")", navy.salutes(man), -1);
        }
        checks.same("nobody", new GreenButtons().salutes(0), -1);
    }

    private static void twins(Checks checks) {
        checks.sentence(24, "TWINS: pairs who are as green as each other");
        checks.same("nobody", new GreenButtons().twins(), 0);
        checks.same("one", greens(3, 5).twins(), 0);
        checks.same("two", greens(3, 5, 5).twins(), 1);
        checks.same("next to each other", greens(3, 5, 6).twins(), 0);
        checks.same("six", greens(3, 0, 0, 0, 0, 0, 0).twins(), 15);
        checks.same("three twos", greens(3, 1, 2, 3, 3, 2, 1).twins(), 3);
        checks.same("the first and the last", greens(3, 1, 2, 3, 4, 5, 1).twins(), 1);
    }

    private static void shades(Checks checks) {
        checks.sentence(25, "SHADES: how many different ones there are (a green by the shade, cut)");
        checks.same("nobody", new GreenButtons().shades(), 0);
        checks.same("one", greens(3, 0).shades(), 1);
        for (int shade = 2; shade <= 9; shade++) {
            checks.same("0, less than " + shade, greens(shade, 0, shade - 1).shades(), 1);
            checks.same("less than " + shade + ", " + shade, greens(shade, shade - 1, shade).shades(), 2);
            checks.same("two of " + shade, greens(shade, 2 * shade - 1, shade, 2 * shade).shades(), 2);
        }
        checks.same("by 1", greens(1, 0, 1, 2, 3, 4, 5).shades(), 6);
        checks.same("six alike", greens(1, 5, 5, 5, 5, 5, 5).shades(), 1);
        GreenButtons most = greens(9, 60, 60);
        for (int i = 0; i < 6; i++) {
            most.fall(0);
        }
        checks.same("99 and 60 by 9", most.shades(), 2);
    }
}
