/** Promises 18 to 23, 26 and 30 at their boundaries, a test for each sentence: what comes if watches, lemons or harbours follow. */
public final class BoundaryAheadTest {
    private static final int[] NO_MEN = {-1, 2, 3, 6, 31, 32, 33, Integer.MIN_VALUE, Integer.MAX_VALUE};

    public static void main(String[] args) {
        Checks checks = new Checks();
        whenNowToSixty(checks);
        whenOthers(checks);
        passesNowToSixty(checks);
        passesOthers(checks);
        nothingElseIsDone(checks);
        changesOneToSixty(checks);
        changesOneMoreOrNoneMore(checks);
        stationsOneToTwelve(checks);
        stationsOthers(checks);
        stationsAsManyAsTheyHold(checks);
        stationsLeastRankThenSpray(checks);
        stationsFirstRow(checks);
        lemonsOneToTwelve(checks);
        lemonsNoneWhoDid(checks);
        lemonsFewestThenLeast(checks);
        docksOneToFifty(checks);
        docksOthers(checks);
        firstByWhen(checks);
        firstOthers(checks);
        chanceOneToSix(checks);
        chanceOdds(checks);
        chanceSeas(checks);
        checks.end();
    }

    /** The first man greens by 1 a watch, the second, of gold, not at all. */
    private static GreenButtons chase(int green, int ahead) {
        return Checks.launched("greens 1;" + Checks.man("a", "plain", green, 0) + Checks.man("b", "gold", ahead, 0));
    }

    private static void whenNowToSixty(Checks checks) {
        checks.sentence(18, "WHEN: behind how many WATCHES (0 to 60) a MAN is CAPTAIN for the first time; NONE: not by 60");
        for (int ahead = 0; ahead <= 60; ahead++) {
            checks.same("a is " + ahead + " behind", chase(0, ahead).when(0), ahead < 60 ? ahead + 1 : -1);
            checks.same("b is " + ahead + " ahead", chase(0, ahead).when(1), ahead > 0 ? 0 : -1);
        }
        checks.same("a is captain now", chase(1, 0).when(0), 0);
        checks.same("alone", Checks.launched(Checks.man("a", "gold", 0, 0)).when(0), 0);
        GreenButtons dip = Checks.launched("greens (now < 10) * 9;" + Checks.man("a", "plain", 9, 0) + Checks.man("b", "plain", 5, 0)
            + Checks.man("c", "gold", 8, 0));
        checks.same("the first time, though not for ever", dip.when(0), 0);
        GreenButtons twins = Checks.launched("greens 5;" + Checks.man("a", "plain", 3, 0) + Checks.man("b", "boy", 3, 0));
        checks.same("alike for ever", twins.when(0), -1);
        GreenButtons top = Checks.launched("greens 9;" + Checks.man("a", "plain", 60, 0) + Checks.man("b", "plain", 59, 0));
        checks.same("99 at most: b is never greener", top.when(1), -1);
    }

    private static void whenOthers(Checks checks) {
        checks.sentence(18, "NONE: others");
        for (int man : NO_MEN) {
            GreenButtons navy = chase(0, 5);
            checks.refused("when(" + man + ")", navy, () -> navy.when(man), -1);
        }
        checks.same("nobody", new GreenButtons().when(0), -1);
    }

    private static void passesNowToSixty(Checks checks) {
        checks.sentence(19, "PASSES: behind how many (0 to 60) the first one is greener than the other one for the first time; NONE: not by 60");
        for (int ahead = 0; ahead <= 60; ahead++) {
            checks.same("a is " + ahead + " behind", chase(0, ahead).passes(0, 1), ahead < 60 ? ahead + 1 : -1);
            checks.same("b is " + ahead + " ahead", chase(0, ahead).passes(1, 0), ahead > 0 ? 0 : -1);
        }
        GreenButtons three = Checks.launched("greens 1;" + Checks.man("a", "plain", 0, 0) + Checks.man("b", "gold", 4, 0)
            + Checks.man("c", "gold", 60, 0));
        checks.same("he need not be captain", three.passes(0, 1), 5);
    }

    private static void passesOthers(Checks checks) {
        checks.sentence(19, "NONE: others, the same");
        GreenButtons navy = chase(0, 5);
        for (int man : NO_MEN) {
            checks.same("passes(" + man + ", 0)", navy.passes(man, 0), -1);
            checks.same("passes(1, " + man + ")", navy.passes(1, man), -1);
            checks.same("passes(" + man + ", " + man + ")", navy.passes(man, man), -1);
        }
        checks.same("passes(0, 0)", navy.passes(0, 0), -1);
        checks.same("passes(1, 1)", navy.passes(1, 1), -1);
        checks.same("nobody", new GreenButtons().passes(0, 1), -1);
    }

    private static void nothingElseIsDone(Checks checks) {
        checks.sentence(18, "WATCHES going by from now on, nothing else being done");
        GreenButtons navy = Checks.launched(Checks.man("a", "plain", 0, 0) + Checks.man("b", "gold", 2, 0) + Checks.post("p", 3, 1) + "sea 0 0 1;");
        navy.stand(0, 0);
        checks.same("behind 3", navy.when(0), 3);
        navy.watch();
        String ahead = Checks.state(navy);
        checks.same("behind 2 more, by the sea from now on", navy.when(0), 2);
        checks.same("passes likewise", navy.passes(0, 1), 2);
        checks.same("changes likewise", navy.changes(2), 1);
        checks.same("first likewise", navy.first(0, 1), 1);
        navy.stations(0, 12, -2);
        navy.lemons(0, 12);
        navy.docks(1);
        navy.chance(0, 6, 5);
        checks.is("all stays", Checks.state(navy).equals(ahead));
    }

    private static void changesOneToSixty(Checks checks) {
        checks.sentence(20, "CHANGES: in so many (1 to 60); NONE: others");
        GreenButtons navy = chase(0, 60);
        checks.same("at 60 they are alike", navy.changes(60), 1);
        checks.same("at 59 not yet", navy.changes(59), 0);
        GreenButtons one = chase(4, 5);
        checks.same("at 1", one.changes(1), 1);
        checks.same("at 2", one.changes(2), 2);
        checks.same("at 60", one.changes(60), 2);
        for (int watches : new int[] {0, -1, 61, 62, Integer.MIN_VALUE, Integer.MAX_VALUE}) {
            GreenButtons wrong = chase(4, 5);
            checks.refused("changes(" + watches + ")", wrong, () -> wrong.changes(watches), -1);
        }
        checks.same("nobody", new GreenButtons().changes(1), 0);
        checks.same("nobody, 60", new GreenButtons().changes(60), 0);
        checks.same("nobody, 0", new GreenButtons().changes(0), -1);
        checks.same("nobody, 61", new GreenButtons().changes(61), -1);
    }

    private static void changesOneMoreOrNoneMore(Checks checks) {
        checks.sentence(20, "how often there is another CAPTAIN, or one more or none more, from one WATCH to the next one");
        GreenButtons jump = Checks.launched("greens 2;" + Checks.man("a", "plain", 4, 0) + Checks.man("b", "gold", 5, 0));
        checks.same("another one at once", jump.changes(60), 1);
        checks.same("none more", chase(4, 5).changes(1), 1);
        checks.same("one more", chase(5, 5).changes(1), 1);
        GreenButtons top = Checks.launched("greens 1;" + Checks.man("a", "plain", 60, 0) + Checks.man("b", "plain", 59, 0));
        checks.same("none more at 99", top.changes(40), 1);
        checks.same("one still at 98", top.changes(39), 0);
        GreenButtons turns = Checks.launched("greens above * 9;" + Checks.man("a", "plain", 4, 0) + Checks.man("b", "plain", 5, 0));
        checks.same("by turns, each watch", turns.changes(7), 7);
    }

    private static void stationsOneToTwelve(Checks checks) {
        checks.sentence(21, "STATIONS of a MAN for so many WATCHES (1 to 12)");
        GreenButtons navy = Checks.launched(Checks.man("a", "plain", 0, 0) + Checks.man("b", "gold", 11, 0) + Checks.post("p", 1, 1)
            + Checks.post("q", 9, 1) + "greens wet = 1;");
        for (int watches = 1; watches <= 12; watches++) {
            checks.same("rank behind " + watches, navy.stations(0, watches, -2), watches < 11 ? 1 : 0);
            checks.same("spray for " + watches, navy.stations(0, watches, -1), watches < 11 ? 0 : 1);
            checks.same("post for " + watches, navy.stations(0, watches, 0), watches < 11 ? -1 : 0);
        }
        GreenButtons last = Checks.launched(Checks.man("a", "plain", 0, 0) + Checks.man("b", "gold", 11, 0) + Checks.post("p", 1, 1));
        checks.same("at 12", last.stations(0, 12, -2), 0);
        checks.same("at 10", last.stations(0, 10, -2), 1);
    }

    private static void stationsOthers(Checks checks) {
        checks.sentence(21, "what -2: the RANK, NONE: the spray, i: the POST of the i-th MAN (NONE: below). -3: others");
        GreenButtons navy = Checks.launched(Checks.man("a", "plain", 0, 0) + Checks.man("b", "gold", 5, 0) + Checks.post("p", 6, 1));
        int[] due = {0, 6, 0, -1};
        for (int what = -2; what < 2; what++) {
            checks.same("stations(0, 1, " + what + ")", navy.stations(0, 1, what), due[what + 2]);
        }
        for (int what : new int[] {-3, -4, 2, 3, 5, 6, Integer.MIN_VALUE, Integer.MAX_VALUE}) {
            checks.same("stations(0, 1, " + what + ")", navy.stations(0, 1, what), -3);
        }
        for (int watches : new int[] {0, -1, 13, 14, Integer.MIN_VALUE, Integer.MAX_VALUE}) {
            GreenButtons wrong = chase(4, 5);
            checks.refused("stations(0, " + watches + ", -2)", wrong, () -> wrong.stations(0, watches, -2), -3);
        }
        for (int man : NO_MEN) {
            checks.same("stations(" + man + ", 1, -2)", navy.stations(man, 1, -2), -3);
        }
        for (int what = -3; what < 2; what++) {
            checks.same("nobody, " + what, new GreenButtons().stations(0, 1, what), -3);
        }
        GreenButtons postless = Checks.launched(Checks.man("a", "plain", 0, 0) + Checks.man("b", "gold", 5, 0));
        int[] below = {1, 0, -1, -1};
        for (int what = -2; what < 2; what++) {
            checks.same("without posts, " + what, postless.stations(0, 12, what), below[what + 2]);
        }
    }

    private static void stationsAsManyAsTheyHold(Checks checks) {
        checks.sentence(21, "all MEN are dealt anew, now, each to a POST or below, as many as these hold");
        StringBuilder text = new StringBuilder("greens 0;");
        for (char name = 'a'; name < 'g'; name++) {
            text.append(Checks.man(String.valueOf(name), "plain", 5, 0));
        }
        for (int holds = 1; holds <= 6; holds++) {
            GreenButtons navy = Checks.launched(text + Checks.post("p", 0, holds));
            for (int man = 0; man < 6; man++) {
                checks.same("where " + holds + " stand, " + man, navy.stations(5, 1, man), man < holds ? 0 : -1);
            }
        }
        GreenButtons six = Checks.launched(Checks.man("a", "gold", 9, 0) + Checks.man("b", "gold", 10, 0) + Checks.man("c", "gold", 11, 0)
            + Checks.man("d", "gold", 12, 0) + Checks.man("e", "plain", 0, 0) + Checks.man("f", "plain", 0, 0) + Checks.post("p", 5, 1));
        for (int man = 4; man < 6; man++) {
            int[] ranks = {4, 2, 0};
            for (int i = 0; i < 3; i++) {
                checks.same("the rank of " + man + " behind " + (i + 1), six.stations(man, i + 1, -2), ranks[i]);
            }
            for (int one = 0; one < 6; one++) {
                checks.same("the post of " + one + " for " + man, six.stations(man, 3, one), one == man ? 0 : -1);
            }
        }
        GreenButtons last = Checks.launched(Checks.man("a", "gold", 9, 0) + Checks.man("b", "gold", 9, 0) + Checks.man("c", "gold", 9, 0)
            + Checks.man("d", "gold", 9, 0) + Checks.man("e", "gold", 9, 0) + Checks.man("f", "gold", 0, 0) + Checks.post("p", 5, 1));
        checks.same("the last of six", last.stations(5, 12, -2), 5);
        checks.same("by no spray", last.stations(5, 12, -1), 0);
        checks.same("all below", last.stations(5, 12, 0), -1);
        GreenButtons smaller = Checks.launched(Checks.post("p", 0, 6) + Checks.post("q", 0, 6) + Checks.post("r", 0, 6) + Checks.post("s", 0, 6));
        Checks.ship(smaller, Checks.man("a", "plain", 0, 0) + Checks.man("b", "gold", 5, 0) + Checks.post("p", 1, 1));
        checks.same("the last ship's posts hold nobody: the rank", smaller.stations(0, 1, -2), 1);
        checks.same("the last ship's posts hold nobody", smaller.stations(0, 1, 0), -1);
        GreenButtons taken = Checks.launched(Checks.man("a", "plain", 0, 0) + Checks.man("b", "gold", 5, 0) + Checks.post("p", 6, 1));
        taken.stand(1, 0);
        checks.same("who stands there now does not count", taken.stations(0, 1, 0), 0);
        checks.same("he is below then", taken.stations(0, 1, 1), -1);
        taken.below(1);
        taken.stand(0, 0);
        checks.same("nor does who need not", taken.stations(1, 1, 0), -1);
    }

    private static void stationsLeastRankThenSpray(Checks checks) {
        checks.sentence(21, "so that his RANK is the least behind them; of equal ones with the least spray (of the POSTS of all, added up)");
        GreenButtons navy = Checks.launched(Checks.man("a", "plain", 0, 0) + Checks.man("b", "gold", 5, 0) + Checks.man("c", "gold", 8, 0)
            + Checks.post("p", 9, 1) + Checks.post("q", 6, 1) + Checks.post("r", 5, 1));
        int[] due = {0, 9, 0, -1, -1};
        for (int what = -2; what < 3; what++) {
            checks.same("rank ahead of spray, " + what, navy.stations(0, 1, what), due[what + 2]);
        }
        int[] twice = {0, 5, 2, -1, -1};
        for (int what = -2; what < 3; what++) {
            checks.same("then the least spray, " + what, navy.stations(0, 2, what), twice[what + 2]);
        }
        GreenButtons alike = Checks.launched(Checks.man("a", "plain", 0, 0) + Checks.man("b", "gold", 5, 0) + Checks.post("p", 5, 1));
        checks.same("as green is not less: the rank is 0", alike.stations(0, 1, -2), 0);
        checks.same("by a spray of 5", alike.stations(0, 1, -1), 5);
        GreenButtons others = Checks.launched("greens 4 - wet;" + Checks.man("a", "plain", 5, 0) + Checks.man("b", "plain", 5, 0)
            + Checks.man("c", "plain", 6, 0) + Checks.post("p", 1, 6));
        int[] held = {0, 1, -1, -1, 0};
        for (int what = -2; what < 3; what++) {
            checks.same("another one's spray counts, " + what, others.stations(0, 1, what), held[what + 2]);
        }
    }

    private static void stationsFirstRow(Checks checks) {
        checks.sentence(21, "of equal ones the first row (of POSTS, by MEN; who is below comes behind all others)");
        GreenButtons dry = Checks.launched(Checks.man("a", "plain", 5, 0) + Checks.man("b", "plain", 4, 0) + Checks.man("c", "plain", 3, 0)
            + Checks.post("p", 0, 1) + Checks.post("q", 0, 1));
        int[] due = {0, 0, 0, 1, -1};
        for (int what = -2; what < 3; what++) {
            checks.same("dry posts ahead of below, " + what, dry.stations(0, 1, what), due[what + 2]);
        }
        GreenButtons hopeless = Checks.launched(Checks.man("a", "gold", 60, 0) + Checks.man("b", "cook", 0, 0) + Checks.man("c", "gold", 1, 0)
            + Checks.post("p", 1, 1) + Checks.post("q", 0, 1) + Checks.post("r", 0, 1));
        int[] low = {2, 0, 1, 2, -1};
        for (int what = -2; what < 3; what++) {
            checks.same("he stays the last, " + what, hopeless.stations(1, 12, what), low[what + 2]);
        }
        GreenButtons same = Checks.launched(Checks.man("a", "gold", 3, 0) + Checks.man("b", "plain", 0, 0) + Checks.post("p", 4, 1) + Checks.post("q", 4, 1)
            + Checks.post("r", 0, 1));
        int[] row = {0, 4, 2, 0};
        for (int what = -2; what < 2; what++) {
            checks.same("the first of like posts, " + what, same.stations(1, 1, what), row[what + 2]);
        }
    }

    private static void lemonsOneToTwelve(Checks checks) {
        checks.sentence(22, "LEMONS: so that he is CAPTAIN behind so many (1 to 12); NONE: others, by none");
        GreenButtons navy = Checks.launched("greens 1;lemon 5;" + Checks.man("a", "plain", 0, 0) + Checks.man("b", "gold", 16, 0));
        for (int watches = 1; watches <= 12; watches++) {
            checks.same("a behind " + watches, navy.lemons(0, watches), watches < 12 ? -1 : 2);
            checks.same("b behind " + watches, navy.lemons(1, watches), 0);
        }
        GreenButtons near = Checks.launched("greens 1;lemon 5;" + Checks.man("a", "plain", 0, 0) + Checks.man("b", "gold", 5, 0));
        checks.same("at 1", near.lemons(0, 1), 2);
        for (int watches : new int[] {0, -1, 13, Integer.MIN_VALUE, Integer.MAX_VALUE}) {
            checks.refused("lemons(1, " + watches + ")", near, () -> near.lemons(1, watches), -1);
        }
        for (int man : NO_MEN) {
            checks.same("lemons(" + man + ", 1)", near.lemons(man, 1), -1);
        }
        checks.same("nobody", new GreenButtons().lemons(0, 1), -1);
        checks.same("alone", Checks.launched(Checks.man("a", "gold", 0, 0)).lemons(0, 1), 0);
    }

    private static void lemonsNoneWhoDid(Checks checks) {
        checks.sentence(22, "the fewest MEN who must SUCK now, none who did");
        String ship = "greens 0;lemon 5;" + Checks.man("a", "plain", 10, 0) + Checks.man("b", "gold", 18, 0) + Checks.man("c", "gold", 14, 0);
        GreenButtons navy = Checks.launched(ship);
        checks.same("c needs b alone", navy.lemons(2, 1), 2);
        checks.same("a by none", navy.lemons(0, 1), -1);
        navy.suck(1);
        checks.same("b did: c is captain", navy.lemons(2, 1), 0);
        checks.same("a needs both again, b did", navy.lemons(0, 1), -1);
        navy.undo();
        navy.suck(2);
        checks.same("c did: b stays ahead", navy.lemons(2, 1), -1);
        GreenButtons low = Checks.launched("greens 0;lemon 20;" + Checks.man("a", "plain", 1, 0) + Checks.man("b", "plain", 3, 0));
        checks.same("0 at least", low.lemons(0, 1), 2);
    }

    private static void lemonsFewestThenLeast(Checks checks) {
        checks.sentence(22, "the fewest MEN; of equal ones the least set (bits)");
        GreenButtons six = Checks.launched("greens 0;lemon 9;" + Checks.man("a", "plain", 20, 0) + Checks.man("b", "plain", 20, 0)
            + Checks.man("c", "plain", 20, 0) + Checks.man("d", "plain", 20, 0) + Checks.man("e", "plain", 20, 0) + Checks.man("f", "plain", 20, 0));
        checks.same("all five others", six.lemons(5, 1), 31);
        checks.same("all five others of the first", six.lemons(0, 1), 62);
        GreenButtons fewer = Checks.launched("greens (now < 6) * 9;lemon 5;" + Checks.man("a", "plain", 12, 0) + Checks.man("b", "plain", 12, 0)
            + Checks.man("c", "plain", 10, 0));
        checks.same("one of a higher bit ahead of two", fewer.lemons(2, 1), 4);
        GreenButtons equal = Checks.launched("greens (now < 6) * 9 * (sweat = 1);lemon 5;" + Checks.man("a", "plain", 12, 0)
            + Checks.man("b", "plain", 10, 1) + Checks.man("c", "plain", 9, 0));
        checks.same("a's or b's own: the least set", equal.lemons(1, 1), 1);
    }

    private static void docksOneToFifty(Checks checks) {
        checks.sentence(23, "DOCKS: behind how many harbours (1 to 50) a MAN is CAPTAIN no more, or is so (if he is not now); NONE: not by 50");
        for (int green = 2; green <= 60; green++) {
            GreenButtons navy = Checks.launched("harbour 1;" + Checks.man("a", "plain", green, 0) + Checks.man("b", "gold", 1, 0));
            checks.same("a no more, from " + green, navy.docks(0), green - 1 <= 50 ? green - 1 : -1);
            checks.same("b is so, from " + green, navy.docks(1), green <= 50 ? green : -1);
        }
        GreenButtons none = Checks.launched("harbour 0;" + Checks.man("a", "plain", 5, 0) + Checks.man("b", "gold", 4, 0));
        checks.same("a harbour of 0", none.docks(0), -1);
        checks.same("a harbour of 0, b", none.docks(1), -1);
        checks.same("alone", Checks.launched(Checks.man("a", "plain", 5, 0)).docks(0), -1);
        GreenButtons dry = Checks.launched("harbour 5;" + Checks.man("a", "plain", 7, 0) + Checks.man("b", "plain", 6, 0));
        checks.same("both at 0 behind two", dry.docks(0), 2);
        checks.same("b never", dry.docks(1), -1);
    }

    private static void docksOthers(Checks checks) {
        checks.sentence(23, "NONE: others");
        for (int man : NO_MEN) {
            GreenButtons navy = Checks.launched("harbour 1;" + Checks.man("a", "plain", 5, 0) + Checks.man("b", "gold", 1, 0));
            checks.refused("docks(" + man + ")", navy, () -> navy.docks(man), -1);
        }
        checks.same("nobody", new GreenButtons().docks(0), -1);
    }

    private static void firstByWhen(Checks checks) {
        checks.sentence(26, "FIRST: who of two would be CAPTAIN first (by WHEN; of equal ones none)");
        checks.same("b now, a later", chase(0, 5).first(0, 1), 1);
        checks.same("a later, b now", chase(0, 5).first(1, 0), 1);
        checks.same("a now, b never", chase(6, 5).first(0, 1), 0);
        checks.same("b never, a now", chase(6, 5).first(1, 0), 0);
        checks.same("a at 60, c never", late(59).first(0, 2), 0);
        checks.same("c never, a at 60", late(59).first(2, 0), 0);
        checks.same("a not by 60, c never", late(60).first(0, 2), -1);
        checks.same("b now, a not by 60", late(60).first(0, 1), 1);
        GreenButtons twins = Checks.launched(Checks.man("a", "plain", 5, 0) + Checks.man("b", "plain", 5, 0));
        checks.same("none is ever", twins.first(0, 1), -1);
    }

    private static GreenButtons late(int ahead) {
        return Checks.launched("greens 1;" + Checks.man("a", "plain", 0, 0) + Checks.man("b", "gold", ahead, 0) + Checks.man("c", "gold", 0, 0));
    }

    private static void firstOthers(Checks checks) {
        checks.sentence(26, "NONE: others, the same, none");
        GreenButtons navy = chase(6, 5);
        for (int man : NO_MEN) {
            checks.same("first(" + man + ", 0)", navy.first(man, 0), -1);
            checks.same("first(0, " + man + ")", navy.first(0, man), -1);
            checks.same("first(" + man + ", " + man + ")", navy.first(man, man), -1);
        }
        checks.same("first(0, 0)", navy.first(0, 0), -1);
        checks.same("nobody", new GreenButtons().first(0, 1), -1);
    }

    /** a leads when a watch of a sea of 2 has come so often that its spray of 1 makes up for what b is ahead. */
    private static GreenButtons odd(int ahead) {
        GreenButtons navy = Checks.launched("sea 3;" + Checks.man("a", "plain", 0, 0) + Checks.man("b", "gold", ahead, 0) + Checks.post("p", 1, 1));
        navy.stand(0, 0);
        return navy;
    }

    private static void chanceOneToSix(Checks checks) {
        checks.sentence(30, "CHANCE: each of so many WATCHES (1 to 6)");
        int[] halves = {0, 500000, 750000, 875000, 937500, 968750, 984375};
        for (int watches = 1; watches <= 6; watches++) {
            checks.same("one of " + watches, odd(1).chance(0, watches, 5), halves[watches]);
            checks.same("none of " + watches, odd(1).chance(1, watches, 5), 1000000 - halves[watches]);
        }
        checks.same("six of six", odd(11).chance(0, 6, 5), 15625);
        checks.same("six of five", odd(11).chance(0, 5, 5), 0);
        for (int watches : new int[] {0, -1, 7, 8, 32, Integer.MIN_VALUE, Integer.MAX_VALUE}) {
            GreenButtons navy = odd(1);
            checks.refused("chance(0, " + watches + ", 5)", navy, () -> navy.chance(0, watches, 5), -1);
        }
        for (int man : NO_MEN) {
            checks.same("chance(" + man + ", 1, 5)", odd(1).chance(man, 1, 5), -1);
        }
        checks.same("nobody", new GreenButtons().chance(0, 1, 5), -1);
    }

    private static void chanceOdds(Checks checks) {
        checks.sentence(30, "by odds (0 to 10); NONE: others");
        for (int odds = 0; odds <= 10; odds++) {
            int sixth = odds * odds * odds * odds * odds * odds;
            checks.same("one by " + odds, odd(1).chance(0, 1, odds), 100000 * odds);
            checks.same("six by " + odds, odd(11).chance(0, 6, odds), sixth);
            checks.same("not six by " + odds, odd(11).chance(1, 6, odds), 1000000 - sixth);
        }
        for (int odds : new int[] {-1, 11, 12, Integer.MIN_VALUE, Integer.MAX_VALUE}) {
            GreenButtons navy = odd(1);
            checks.refused("chance(0, 1, " + odds + ")", navy, () -> navy.chance(0, 1, odds), -1);
        }
    }

    private static void chanceSeas(Checks checks) {
        checks.sentence(30, "a sea of 2 by odds of ten, else of 0, in place of what is told");
        checks.same("a sea of 2, not of 3", odd(2).chance(0, 1, 10), 0);
        checks.same("nor b: they are alike", odd(2).chance(1, 1, 10), 0);
        checks.same("a sea of 0, not of 3", odd(1).chance(0, 6, 0), 0);
        GreenButtons calm = Checks.launched("greens wet = 0;sea 3;" + Checks.man("a", "plain", 0, 0) + Checks.man("b", "gold", 0, 0) + Checks.post("p", 1, 1));
        calm.stand(0, 0);
        checks.same("calm is 0", calm.chance(0, 1, 0), 1000000);
        checks.same("rough is not", calm.chance(0, 1, 10), 0);
        checks.same("calm by 7 of ten", calm.chance(0, 1, 3), 700000);
        GreenButtons late = odd(1);
        late.watch();
        checks.same("from now on: a has 3", late.chance(0, 1, 0), 1000000);
        GreenButtons below = odd(1);
        below.below(0);
        checks.same("below there is no sea", below.chance(0, 6, 10), 0);
    }
}
