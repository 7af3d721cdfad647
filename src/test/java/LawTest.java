import java.util.Arrays;
import java.util.Random;

/** The law of how one greens on an object that is used for long: what an earlier ship or an earlier watch had must not show. */
public final class LawTest {
    private static final int SHIPS = Integer.getInteger("ships", 150);
    private static final int SEEDS = 440;
    private static final int WATCHES = 99;
    private static final int MEN = 6;
    private static final int POSTS = 4;
    private static final int[] SEAS = {1, 2, 3, 0, 2};

    private final Random random;
    private final int[] hands = new int[MEN];
    private final int[] told = new int[MEN];
    private final int[] spray = new int[POSTS];
    private final int[] weights = new int[6];
    private long drawn;

    private LawTest(int seed) {
        random = new Random(seed);
        for (int man = 0; man < MEN; man++) {
            hands[man] = random.nextInt(6);
            told[man] = random.nextInt(30);
        }
        for (int post = 0; post < POSTS; post++) {
            spray[post] = random.nextInt(10);
        }
        for (int i = 0; i < weights.length; i++) {
            weights[i] = 5001 + 2 * random.nextInt(2499);
        }
    }

    public static void main(String[] args) {
        Checks checks = new Checks();
        usualLawManyTimes(checks);
        toldLawManyTimes(checks);
        usualLawBehindToldOnes(checks);
        factsAtTheirCorners(checks);
        for (int ship = 0; ship < SHIPS; ship++) {
            new LawTest(ship).otherFactsOtherAnswers(checks);
        }
        checks.end();
    }

    private static void usualLawManyTimes(Checks checks) {
        checks.sentence(3, "Without greens: wet + sweat");
        GreenButtons navy = new GreenButtons();
        for (int i = 0; i < 70; i++) {
            int sweat = 2 * (i % 3);
            checks.same("ship " + i, Checks.ship(navy, "man a boy green 1 hands " + i % 3 + ";post p spray 3 holds 1;"), 0);
            checks.is("stand", navy.stand(0, 0));
            navy.watch();
            checks.same("ship " + i + ": green", navy.man(0, 2), 1 + 3 + sweat);
        }
    }

    private static void toldLawManyTimes(Checks checks) {
        checks.sentence(3, "Without a FAULT a SHIP is the SHIP from then on");
        GreenButtons navy = new GreenButtons();
        for (int i = 0; i < 80; i++) {
            String law = i % 2 == 0 ? "now*" + i % 7 : "not above+" + i % 7;
            checks.same("ship " + i, Checks.ship(navy, "man a boy green 1 hands 3;greens " + law + ";"), 0);
            navy.watch();
            checks.same("ship " + i + " by " + law, navy.man(0, 2), 1 + i % 7 + i % 2);
        }
    }

    private static void usualLawBehindToldOnes(Checks checks) {
        checks.sentence(3, "its FAULT (all stays then)");
        GreenButtons navy = new GreenButtons();
        for (int i = 0; i < 35; i++) {
            checks.same("a told law", Checks.ship(navy, "man a plain green 1 hands 3;greens 7;"), 0);
            checks.same("half a law", Checks.ship(navy, "greens 8+(9-;"), 1 + 16 * 12);
            navy.watch();
            checks.same("the told law stays", navy.man(0, 2), 8);
            checks.same("the usual law", Checks.ship(navy, "man a plain green 1 hands 3;"), 0);
            navy.watch();
            checks.same("half a law is gone", navy.man(0, 2), 4);
        }
    }

    /** The first watch of a new object, the facts as low and as high as they can be. */
    private static void factsAtTheirCorners(Checks checks) {
        checks.sentence(11, "each MAN but gold ones has so much green more as the E of greens tells");
        for (int corner = 0; corner < 96; corner++) {
            int own = corner % 6;
            String kind = corner / 6 % 2 == 0 ? "plain" : "boy";
            int splash = corner / 12 % 2 * 9;
            int others = corner / 24 % 2 * 60;
            int green = corner / 48 % 2 * 60;
            StringBuilder ship = new StringBuilder(Checks.man("a", kind, green, own));
            for (char name = 'b'; name <= 'f'; name++) {
                ship.append(Checks.man("" + name, "gold", others, 0));
            }
            ship.append(Checks.post("p", splash, 1)).append("sea 3;greens 4+above*0;");
            GreenButtons navy = Checks.launched(ship.toString());
            navy.stand(0, 0);
            navy.watch();
            checks.same(ship + " green", navy.man(0, 2), green + 4);
        }
    }

    /** By this law nearly alike facts have answers without a pattern, so that one that belongs to other facts is seen. */
    private void otherFactsOtherAnswers(Checks checks) {
        checks.sentence(32, "each MAN but gold ones has so much green more as the E of greens tells");
        GreenButtons navy = Checks.launched(text());
        for (int i = 0; i < SEEDS; i++) {
            int seed = random.nextInt(10000);
            checks.same(text() + " voyages(" + seed + ", 99, 2)", navy.voyages(seed, WATCHES, 2), greensAtLast(seed));
        }
    }

    private String text() {
        StringBuilder text = new StringBuilder();
        for (int man = 0; man < MEN; man++) {
            text.append(Checks.man("" + (char) ('a' + man), man % 2 == 0 ? "boy" : "plain", told[man], hands[man]));
        }
        for (int post = 0; post < POSTS; post++) {
            text.append(Checks.post("" + (char) ('p' + post), spray[post], MEN));
        }
        return text + "sea 1 2 3 0 2;harbour 9;shade 1;greens (now*" + weights[0] + "+sweat*" + weights[1] + "+wet*" + weights[2]
            + "+above*" + weights[3] + ")*" + weights[4] + "*" + weights[5] + "<0;";
    }

    private int greensAtLast(int seed) {
        int[] green = told.clone();
        int[] wet = new int[MEN];
        drawn = seed;
        for (int watch = 0; watch < WATCHES; watch++) {
            int man = draw(MEN);
            int post = draw(POSTS + 1);
            wet[man] = post < POSTS ? spray[post] : 0;
            int mishap = draw(20);
            if (mishap == 0) {
                Arrays.fill(wet, 0);
                Arrays.setAll(green, i -> Math.max(0, green[i] - 9));
            } else if (mishap == 1) {
                green[man] = Math.min(99, Arrays.stream(green).max().getAsInt() + 1);
            }
            int[] ahead = green.clone();
            for (int i = 0; i < MEN; i++) {
                green[i] = Math.min(99, ahead[i] + rise(ahead, i, wet[i] * SEAS[watch % SEAS.length]));
            }
        }
        return Arrays.stream(green).sum();
    }

    private int rise(int[] green, int man, int wet) {
        int above = 0;
        for (int other : green) {
            above += other > green[man] ? 1 : 0;
        }
        int facts = green[man] * weights[0] + hands[man] * (man % 2 == 0 ? 2 : 1) * weights[1] + wet * weights[2] + above * weights[3];
        return facts * weights[4] * weights[5] < 0 ? 1 : 0;
    }

    private int draw(int limit) {
        drawn = (drawn * 1103515245L + 12345L) % 2147483648L;
        return (int) (drawn / 65536L % limit);
    }
}
