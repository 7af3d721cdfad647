import java.nio.charset.StandardCharsets;
import java.util.NoSuchElementException;
import java.util.function.IntSupplier;

/** What the tests share: feeding texts, telling wrong answers, the exit code. */
final class Checks {
    static final int THROWN = Integer.MIN_VALUE;
    private int wrong = 0;
    private int made = 0;
    private String about = "";

    /** The test of one sentence of the document begins: what is wrong then is told with the promise and the sentence. */
    void sentence(int promise, String words) {
        about = "Promise " + promise + " ('" + words + "'): ";
    }

    void same(String call, long got, long want) {
        made++;
        if (got != want) {
            wrong++;
            System.out.println(about + call + " answered " + got + ", due is " + want);
        }
    }

    /** A call that is refused: it answers as told, and all stays as it was. */
    void refused(String call, GreenButtons navy, IntSupplier made, int want) {
        String ahead = state(navy);
        same(call, made.getAsInt(), want);
        is(call + " leaves all as it was", state(navy).equals(ahead));
    }

    void is(String call, boolean got) {
        same(call, got ? 1 : 0, 1);
    }

    void isNot(String call, boolean got) {
        same(call, got ? 1 : 0, 0);
    }

    void end() {
        System.out.println(made + " checks, " + wrong + " wrong");
        if (wrong != 0) {
            System.exit(1);
        }
    }

    static int feedText(GreenButtons navy, String text) {
        byte[] signs = text.getBytes(StandardCharsets.ISO_8859_1);
        int there = navy.count(12);
        for (int from = 0; from < signs.length; from += 24) {
            there = navy.feed(packed(signs, from), packed(signs, from + 8), packed(signs, from + 16));
        }
        return there;
    }

    static long packed(byte[] signs, int from) {
        long eight = 0;
        for (int i = from; i < from + 8; i++) {
            eight = eight << 8 | (i < signs.length ? signs[i] & 255 : 0);
        }
        return eight;
    }

    static int ship(GreenButtons navy, String text) {
        feedText(navy, text);
        return navy.ship();
    }

    static int voyage(GreenButtons navy, String text) {
        feedText(navy, text);
        return navy.voyage();
    }

    static GreenButtons launched(String text) {
        GreenButtons navy = new GreenButtons();
        int fault = ship(navy, text);
        if (fault != 0) {
            throw new IllegalArgumentException("fault " + fault + " in " + text);
        }
        return navy;
    }

    /** All that can be seen of an object by calls that change nothing. */
    static String state(GreenButtons navy) {
        StringBuilder all = new StringBuilder();
        for (int what = 0; what <= 12; what++) {
            all.append(navy.count(what)).append(' ');
        }
        for (int man = 0; man < navy.count(0); man++) {
            for (int what = 0; what <= 5; what++) {
                all.append(navy.man(man, what)).append(' ');
            }
        }
        for (int post = 0; post < navy.count(1); post++) {
            for (int what = 0; what <= 2; what++) {
                all.append(navy.post(post, what)).append(' ');
            }
        }
        for (int what = 0; what <= 2; what++) {
            all.append(navy.judged(what)).append(' ').append(navy.sets(what)).append(' ');
        }
        return all.toString();
    }

    static String man(String name, String kind, int green, int hands) {
        return "man " + name + " " + kind + " green " + green + " hands " + hands + ";";
    }

    static String post(String name, int spray, int holds) {
        return "post " + name + " spray " + spray + " holds " + holds + ";";
    }

    static int rests(GreenButtons navy, int both, int gets, int loses, int what) {
        try {
            return navy.rests(both, gets, loses, what);
        } catch (NoSuchElementException none) {
            return THROWN;
        }
    }
}
