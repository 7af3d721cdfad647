/** Promises 7 to 13: what is done by hand, and undone. */
public final class HandsTest {
    private static final String SHIP = "man a plain green 10 hands 1;man b cook green 12 hands 2;man c boy green 3 hands 2;"
        + "man d gold green 20 hands 5;post p spray 3 holds 1;post q spray 1 holds 2;sea 1 0 2;shade 4;lemon 6;harbour 5;";

    public static void main(String[] args) {
        Checks checks = new Checks();
        standing(checks);
        goingBelow(checks);
        sucking(checks);
        falling(checks);
        watches(checks);
        watchAsAhead(checks);
        harbours(checks);
        undoing(checks);
        undoLimit(checks);
        checks.end();
    }

    private static void standing(Checks checks) {
        GreenButtons navy = Checks.launched(SHIP);
        checks.is("7: a at p", navy.stand(0, 0));
        checks.isNot("7: he stands there", navy.stand(0, 0));
        checks.isNot("7: p is full", navy.stand(1, 0));
        checks.is("7: b at q", navy.stand(1, 1));
        checks.is("7: gold stands, too", navy.stand(3, 1));
        checks.isNot("7: q is full", navy.stand(0, 1));
        checks.isNot("7: q is full, for who stands there, too", navy.stand(3, 1));
        checks.is("7: below", navy.below(3));
        checks.is("7: from post to post", navy.stand(0, 1));
        checks.same("7: p is free", navy.post(0, 2), 0);
        checks.same("7: q has two", navy.post(1, 2), 3);
        int undos = navy.count(11);
        int[][] wrong = {{-1, 0}, {4, 0}, {0, 2}, {0, -1}, {2, -1}, {Integer.MAX_VALUE, 0}, {0, Integer.MIN_VALUE}};
        for (int[] pair : wrong) {
            checks.isNot("7: " + pair[0] + ", " + pair[1], navy.stand(pair[0], pair[1]));
        }
        checks.same("7: what can't be is nothing to undo", navy.count(11), undos);
    }

    private static void goingBelow(Checks checks) {
        GreenButtons navy = Checks.launched(SHIP);
        checks.isNot("8: he is", navy.below(0));
        navy.stand(0, 1);
        checks.is("8: he goes", navy.below(0));
        checks.same("8: below", navy.man(0, 3), -1);
        checks.isNot("8: he is again", navy.below(0));
        checks.isNot("8: -1", navy.below(-1));
        checks.isNot("8: 4", navy.below(4));
        checks.same("8: two to undo", navy.count(11), 2);
    }

    private static void sucking(Checks checks) {
        GreenButtons navy = Checks.launched(SHIP);
        checks.same("9: a", navy.suck(0), 4);
        checks.same("9: once", navy.suck(0), -1);
        checks.same("9: 0 at least", navy.suck(2), 0);
        checks.same("9: gold, too", navy.suck(3), 14);
        checks.same("9: he did", navy.man(3, 4), 1);
        checks.same("9: -1", navy.suck(-1), -1);
        checks.same("9: 4", navy.suck(4), -1);
        checks.same("9: three to undo", navy.count(11), 3);
        checks.is("9: undone", navy.undo());
        checks.same("9: he did not", navy.man(3, 4), 0);
        checks.same("9: so he can", navy.suck(3), 14);
    }

    private static void falling(Checks checks) {
        GreenButtons navy = Checks.launched(SHIP);
        navy.stand(2, 0);
        checks.same("10: c", navy.fall(2), 24);
        checks.same("10: he stands where he stood", navy.man(2, 3), 0);
        checks.same("10: the greenest himself", navy.fall(2), 28);
        checks.same("10: gold, too", navy.fall(3), 32);
        checks.same("10: 4", navy.fall(4), -1);
        checks.same("10: -1", navy.fall(-1), -1);
        checks.same("10: four to undo", navy.count(11), 4);
        for (int i = 0; i < 17; i++) {
            navy.fall(0);
        }
        checks.same("10: 99 at most", navy.fall(1), 99);
    }

    private static void watches(Checks checks) {
        GreenButtons navy = Checks.launched(SHIP);
        navy.stand(0, 0);
        navy.stand(1, 1);
        navy.stand(3, 1);
        checks.same("11: one", navy.watch(), 1);
        int[] first = {14, 14, 7, 20};
        for (int man = 0; man < 4; man++) {
            checks.same("11: behind one, man " + man, navy.man(man, 2), first[man]);
        }
        checks.same("11: two", navy.watch(), 2);
        checks.same("11: a calm one", navy.man(0, 2), 15);
        checks.same("11: three", navy.watch(), 3);
        checks.same("11: a sea of 2", navy.man(0, 2), 22);
        for (int i = 0; i < 60; i++) {
            navy.watch();
        }
        checks.same("11: 99 at most", navy.man(0, 2), 99);
        checks.same("11: gold can't rise", navy.man(3, 2), 20);
        checks.same("11: sixty-four", navy.watch(), 64);
    }

    private static void watchAsAhead(Checks checks) {
        GreenButtons navy = Checks.launched("man a plain green 10 hands 0;man b plain green 11 hands 0;greens above * 5;");
        navy.watch();
        checks.same("11: a rises by the rank he had", navy.man(0, 2), 15);
        checks.same("11: b had nobody above", navy.man(1, 2), 11);
        navy.watch();
        checks.same("11: then b has", navy.man(1, 2), 16);
        checks.same("11: and a has not", navy.man(0, 2), 15);
    }

    private static void harbours(Checks checks) {
        GreenButtons navy = Checks.launched(SHIP);
        navy.stand(0, 0);
        navy.stand(3, 1);
        checks.same("12: greens of all", navy.dock(), 5 + 7 + 0 + 20);
        checks.same("12: all are below", navy.count(8), 15);
        checks.same("12: 0 at least", navy.man(2, 2), 0);
        checks.same("12: gold ones lose nothing", navy.man(3, 2), 20);
        checks.same("12: no watch goes by", navy.count(5), 0);
        checks.same("12: again", navy.dock(), 2 + 20);
    }

    private static void undoing(Checks checks) {
        GreenButtons navy = Checks.launched(SHIP);
        navy.stand(0, 0);
        navy.watch();
        navy.suck(0);
        navy.fall(2);
        navy.dock();
        navy.stand(1, 1);
        navy.below(1);
        checks.same("13: seven", navy.count(11), 7);
        checks.is("13: below", navy.undo());
        checks.same("13: he stands", navy.man(1, 3), 1);
        checks.is("13: stand", navy.undo());
        checks.same("13: he is below", navy.man(1, 3), -1);
        checks.is("13: dock", navy.undo());
        checks.same("13: a stands again", navy.man(0, 3), 0);
        checks.same("13: c's green", navy.man(2, 2), 24);
        checks.is("13: fall", navy.undo());
        checks.same("13: c's green ahead", navy.man(2, 2), 7);
        checks.is("13: suck", navy.undo());
        checks.same("13: a's green", navy.man(0, 2), 14);
        checks.same("13: a's lemon", navy.man(0, 4), 0);
        checks.is("13: watch", navy.undo());
        checks.same("13: the watch", navy.count(5), 0);
        checks.same("13: greens", navy.count(7), 45);
        checks.is("13: the first", navy.undo());
        checks.same("13: all below", navy.count(8), 15);
        checks.isNot("13: nothing", navy.undo());
        checks.same("13: none", navy.count(11), 0);
    }

    private static void undoLimit(Checks checks) {
        GreenButtons navy = Checks.launched(SHIP);
        for (int i = 0; i < 21; i++) {
            navy.watch();
        }
        checks.same("13: sixteen at most", navy.count(11), 16);
        for (int i = 0; i < 3; i++) {
            checks.is("13: undo " + i, navy.undo());
        }
        checks.same("13: back by three", navy.count(5), 18);
        checks.isNot("13: this can't be", navy.stand(9, 9));
        navy.watch();
        checks.same("13: fourteen", navy.count(11), 14);
        for (int i = 0; i < 14; i++) {
            checks.is("13: undo more " + i, navy.undo());
        }
        checks.isNot("13: no more", navy.undo());
        checks.same("13: the first five stay", navy.count(5), 5);
        checks.same("13: their greens stay", navy.man(0, 2), 15);
    }
}
