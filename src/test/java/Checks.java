import java.nio.charset.StandardCharsets;
import java.util.NoSuchElementException;

/** What the tests share: feeding texts, telling wrong answers, the exit code. */
final class Checks {
    static final int THROWN = Integer.MIN_VALUE;
    private int wrong = 0;
    private int made = 0;

    void same(String call, long got, long want) {
        made++;
        if (got != want) {
            wrong++;
            System.out.println(call + " answered " + got + ", due is " + want);
        }
    }

    void is(String call, boolean got) {
        same(call, got ? 1 : 0, 1);
    }

    void isNot(String call, boolean got) {
        same(call, got ? 1 : 0, 0);
    }

    void end() {
        System.out.println(made + " checks, " + wrong + " wrong");
        if (wrong != 0) {
            System.exit(1);
        }
    }

    static int feedText(GreenButtons navy, String text) {
        byte[] signs = text.getBytes(StandardCharsets.ISO_8859_1);
        int there = navy.count(12);
        for (int from = 0; from < signs.length; from += 24) {
            there = navy.feed(packed(signs, from), packed(signs, from + 8), packed(signs, from + 16));
        }
        return there;
    }

    static long packed(byte[] signs, int from) {
        long eight = 0;
        for (int i = from; i < from + 8; i++) {
            eight = eight << 8 | (i < signs.length ? signs[i] & 255 : 0);
        }
        return eight;
    }

    static int ship(GreenButtons navy, String text) {
        feedText(navy, text);
        return navy.ship();
    }

    static int voyage(GreenButtons navy, String text) {
        feedText(navy, text);
        return navy.voyage();
    }

    static GreenButtons launched(String text) {
        GreenButtons navy = new GreenButtons();
        int fault = ship(navy, text);
        if (fault != 0) {
            throw new IllegalArgumentException("fault " + fault + " in " + text);
        }
        return navy;
    }

    static int rests(GreenButtons navy, int both, int gets, int loses, int what) {
        try {
            return navy.rests(both, gets, loses, what);
        } catch (NoSuchElementException none) {
            return THROWN;
        }
    }
}
