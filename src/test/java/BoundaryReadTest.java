/** Promises 1 to 4 at their boundaries, a test for each sentence: a new object, the TAPE, and what can be read from it. */
public final class BoundaryReadTest {
    private static final String SIX = Checks.man("a", "plain", 1, 1) + Checks.man("b", "plain", 2, 1) + Checks.man("c", "plain", 3, 1)
        + Checks.man("d", "plain", 4, 1) + Checks.man("e", "plain", 5, 1) + Checks.man("f", "plain", 6, 1);
    private static final String FOUR = Checks.post("p", 1, 1) + Checks.post("q", 2, 2) + Checks.post("r", 3, 3) + Checks.post("s", 4, 4);
    private static final String SAILED = Checks.man("a", "plain", 10, 1) + Checks.man("b", "boy", 20, 2) + Checks.post("p", 3, 1)
        + "sea 2 1;shade 4;lemon 6;harbour 7;greens 3;";
    private static final String RESERVED = "man green hands post spray holds sea shade lemon harbour greens stand below suck fall watch dock"
        + " plain cook boy gold not and or";

    public static void main(String[] args) {
        Checks checks = new Checks();
        newObjectHasNothing(checks);
        bytesHighestFirst(checks);
        otherBytesAreLeftOut(checks);
        beyondThousandIsLeftOut(checks);
        wordsAtTheEndOfAFullTape(checks);
        signsOfAnEarlierTapeAreGone(checks);
        whatReadsTheTapeTakesIt(checks);
        wordsOfEightLetters(checks);
        numbersOfFourDigits(checks);
        letterBehindNumber(checks);
        otherSignsAreNone(checks);
        blanksWhereOneLikes(checks);
        anyNumberOfLines(checks);
        sixMen(checks);
        fourPosts(checks);
        greenAndHands(checks);
        sprayAndHolds(checks);
        seas(checks);
        seaOfTwelve(checks);
        seaAgainAndAgain(checks);
        shadeLemonHarbour(checks);
        onceEach(checks);
        namesAreOtherWords(checks);
        noTwoAlike(checks);
        withinFive(checks);
        testsOnce(checks);
        intsWrap(checks);
        notZeroIsSo(checks);
        endIsAToken(checks);
        firstFromTheLeft(checks);
        theLeastKind(checks);
        allStaysByAFault(checks);
        shipFromThenOn(checks);
        lawFromThenOn(checks);
        voyageNames(checks);
        fortyLines(checks);
        voyageStaysByAFault(checks);
        checks.end();
    }

    /** The wrong token is the one behind the sign ^, which is no part of the text. */
    private static void fault(Checks checks, int kind, String text) {
        int at = text.indexOf('^');
        String told = text.substring(0, at) + text.substring(at + 1);
        checks.same("ship: " + text, Checks.ship(new GreenButtons(), told), kind + 16 * at);
    }

    private static void fine(Checks checks, String text) {
        checks.same("ship: " + text, Checks.ship(new GreenButtons(), text), 0);
    }

    private static void voyageFault(Checks checks, int kind, String text) {
        int at = text.indexOf('^');
        String told = text.substring(0, at) + text.substring(at + 1);
        checks.same("voyage: " + text, Checks.voyage(Checks.launched(SAILED), told), kind + 16 * at);
    }

    private static void voyageFine(Checks checks, String text) {
        checks.same("voyage: " + text, Checks.voyage(Checks.launched(SAILED), text), 0);
    }

    private static void newObjectHasNothing(Checks checks) {
        checks.sentence(1, "Nothing.");
        GreenButtons navy = new GreenButtons();
        int[] due = {0, 0, 3, 5, 2, 0, 1, 0, 0, 0, 0, 0, 0};
        for (int what = 0; what < due.length; what++) {
            checks.same("count(" + what + ")", navy.count(what), due[what]);
        }
        checks.refused("undo()", navy, () -> navy.undo() ? 1 : 0, 0);
        for (int mark = 0; mark < 4; mark++) {
            checks.isNot("mark(" + mark + ", true)", navy.mark(mark, true));
        }
        checks.same("man(0, 2)", navy.man(0, 2), -2);
        checks.same("post(0, 0)", navy.post(0, 0), -1);
        for (int what = 0; what < 3; what++) {
            checks.same("judged(" + what + ")", navy.judged(what), -1);
        }
        GreenButtons other = new GreenButtons();
        Checks.feedText(other, "abc");
        other.watch();
        checks.same("another object's tape", navy.count(12), 0);
        checks.same("another object's watch", navy.count(5), 0);
    }

    private static void bytesHighestFirst(Checks checks) {
        checks.sentence(2, "Up to 24 signs come behind the TAPE: the bytes of a, b, c, of each the highest first");
        GreenButtons navy = new GreenButtons();
        byte[] text = "man a plain green 7 hand".getBytes();
        checks.same("24 signs", navy.feed(Checks.packed(text, 0), Checks.packed(text, 8), Checks.packed(text, 16)), 24);
        checks.same("4 signs in the low bytes of b", navy.feed(0, 0x7320323BL, 0), 28);
        checks.same("ship()", navy.ship(), 0);
        checks.same("green", navy.man(0, 2), 7);
        checks.same("hands", navy.man(0, 1), 2);
    }

    private static void otherBytesAreLeftOut(Checks checks) {
        checks.sentence(2, "others than 10 and 32 .. 126 [..] are left out: how many there are");
        for (int sign = 0; sign < 256; sign++) {
            GreenButtons navy = new GreenButtons();
            boolean stays = sign == 10 || sign >= 32 && sign <= 126;
            for (int i = 0; i < 24; i++) {
                long eight = (long) sign << 56 - i % 8 * 8;
                int got = navy.feed(i < 8 ? eight : 0, i / 8 == 1 ? eight : 0, i >= 16 ? eight : 0);
                checks.same("byte " + sign + " at " + i, got, stays ? i + 1 : 0);
            }
            long all = 0x0101010101010101L * sign;
            checks.same("24 of " + sign, navy.feed(all, all, all), stays ? 48 : 0);
        }
        checks.same("none", new GreenButtons().feed(0, 0, 0), 0);
    }

    private static void beyondThousandIsLeftOut(Checks checks) {
        checks.sentence(2, "what is beyond 1,000, are left out");
        GreenButtons full = new GreenButtons();
        checks.same("999", Checks.feedText(full, " ".repeat(991) + "shade 7;"), 999);
        checks.same("the 1,000th", Checks.feedText(full, " "), 1000);
        checks.same("the 1,001st", Checks.feedText(full, "x"), 1000);
        checks.same("24 more", full.feed(-1L >>> 1, 0x7878787878787878L, 0x7878787878787878L), 1000);
        checks.same("none more", full.feed(0, 0, 0), 1000);
        checks.same("count(12)", full.count(12), 1000);
        checks.same("ship()", full.ship(), 0);
        checks.same("shade", full.count(2), 7);
        checks.same("the tape begins anew", Checks.feedText(full, "abc"), 3);
        GreenButtons split = new GreenButtons();
        Checks.feedText(split, " ".repeat(992));
        checks.same("8 of 24 stay", Checks.feedText(split, "shade 8;lemon 9;man post"), 1000);
        checks.same("the first 8", split.ship(), 0);
        checks.same("their shade", split.count(2), 8);
        checks.same("their lemon is left out", split.count(3), 5);
        GreenButtons cut = new GreenButtons();
        Checks.feedText(cut, " ".repeat(993) + "shade 8;");
        checks.same("the ; is beyond: the end is at 1,000", cut.ship(), 1 + 16 * 1000);
        Checks.feedText(cut, " ".repeat(999) + "?");
        checks.same("the token at 999", cut.ship(), 1 + 16 * 999);
        StringBuilder longest = new StringBuilder("greens 1");
        while (longest.length() < 998) {
            longest.append("+1");
        }
        longest.append(longest.length() == 998 ? " ;" : ";");
        fine(checks, longest.toString());
    }

    /** Behind the 1,000th sign there is none: no reader may look there for the rest of a word or a number. */
    private static void wordsAtTheEndOfAFullTape(Checks checks) {
        checks.sentence(3, "The TAPE has at most 1,000 signs; the end being one at the text's length");
        for (String word : (RESERVED + " now sweat wet above").split(" ")) {
            for (int length = 1; length <= word.length(); length++) {
                String start = word.substring(0, length);
                lastOfFullTape(checks, "", start, "man post sea shade lemon harbour greens");
                lastOfFullTape(checks, "man a", start, "plain cook boy gold");
                lastOfFullTape(checks, "man a plain", start, "green");
                lastOfFullTape(checks, "man a plain green 1", start, "hands");
                lastOfFullTape(checks, "post p", start, "spray");
                lastOfFullTape(checks, "post p spray 1", start, "holds");
                lastOfFullTape(checks, "greens", start, "now sweat wet above not");
                lastOfFullTape(checks, "greens 1", start, "and or");
                boolean verb = isOneOf(start, "stand below suck fall watch dock");
                int due = 1 + 16 * (verb ? 1000 : 1000 - length);
                checks.same("voyage: .. " + start, Checks.voyage(new GreenButtons(), " ".repeat(1000 - length) + start), due);
            }
        }
        for (int length = 1; length <= 9; length++) {
            int name = 1 + 16 * (length <= 8 ? 1000 : 1000 - length);
            checks.same("a name of " + length, Checks.ship(new GreenButtons(), full("man", "z".repeat(length))), name);
            int number = 1 + 16 * (length <= 4 ? 1000 : 1000 - length);
            checks.same("a number of " + length, Checks.ship(new GreenButtons(), full("greens", "1".repeat(length))), number);
        }
        for (char sign : "()<=+-*;".toCharArray()) {
            int due = 1 + 16 * (sign == '(' ? 1000 : 999);
            checks.same("greens .. " + sign, Checks.ship(new GreenButtons(), full("greens", "" + sign)), due);
        }
    }

    /** The last token can stand there if it is one of these: then it is the end that can't. */
    private static void lastOfFullTape(Checks checks, String head, String last, String these) {
        int due = 1 + 16 * (isOneOf(last, these) ? 1000 : 1000 - last.length());
        checks.same("ship: " + head + " .. " + last, Checks.ship(new GreenButtons(), full(head, last)), due);
    }

    private static String full(String head, String last) {
        return head + " ".repeat(1000 - head.length() - last.length()) + last;
    }

    private static boolean isOneOf(String word, String these) {
        return (" " + these + " ").contains(" " + word + " ");
    }

    private static void signsOfAnEarlierTapeAreGone(Checks checks) {
        checks.sentence(3, "what reads it takes it: it is empty then");
        GreenButtons navy = new GreenButtons();
        checks.same("whole", Checks.ship(navy, "greens 12;shade 8;"), 0);
        checks.same("gree, an n was behind it", Checks.ship(navy, "gree"), 1);
        checks.same("green, an s was behind it", Checks.ship(navy, "green"), 1);
        checks.same("greens, a number was behind it", Checks.ship(navy, "greens"), 1 + 16 * 6);
        checks.same("again whole", Checks.ship(navy, "greens 12;shade 8;"), 0);
        checks.same("greens 1, a ; was behind it", Checks.ship(navy, "greens 01"), 1 + 16 * 9);
        checks.same("once more whole", Checks.ship(navy, "shade 12;"), 4 + 16 * 6);
        checks.same("a 1 without its 2", Checks.ship(navy, "shade 1"), 1 + 16 * 7);
        checks.same("a voyage", Checks.voyage(navy, "watch;dock;"), 0);
        checks.same("wat, a c was behind it", Checks.voyage(navy, "wat"), 1);
        checks.same("watch, a ; was behind it", Checks.voyage(navy, "watch"), 1 + 16 * 5);
        checks.same("the voyage stays", navy.count(9), 2);
    }

    private static void whatReadsTheTapeTakesIt(Checks checks) {
        checks.sentence(3, "what reads it takes it: it is empty then");
        GreenButtons navy = new GreenButtons();
        checks.same("fine", Checks.ship(navy, "shade 7;"), 0);
        checks.same("is empty", navy.count(12), 0);
        checks.same("a fault", Checks.ship(navy, "shade 7"), 1 + 16 * 7);
        checks.same("is empty by a fault, too", navy.count(12), 0);
        checks.same("shade stays", navy.count(2), 7);
        checks.same("an empty tape is a ship", navy.ship(), 0);
        checks.same("of the usual shade", navy.count(2), 3);
        checks.sentence(4, "what reads it takes it: it is empty then");
        checks.same("fine", Checks.voyage(navy, "watch;dock;"), 0);
        checks.same("is empty", navy.count(12), 0);
        checks.same("a fault", Checks.voyage(navy, "watch"), 1 + 16 * 5);
        checks.same("is empty by a fault, too", navy.count(12), 0);
        checks.same("lines stay", navy.count(9), 2);
        checks.same("an empty tape is a voyage", navy.voyage(), 0);
        checks.same("without lines", navy.count(9), 0);
    }

    private static void wordsOfEightLetters(Checks checks) {
        checks.sentence(3, "WORDS (letters a .. z, 8 at most); a longer WORD, too, at its first sign is none");
        fine(checks, "man a plain green 1 hands 1;man z plain green 1 hands 1;");
        fine(checks, "man abcdefgh plain green 1 hands 1;man abcdefgi plain green 1 hands 1;man bbcdefgh boy green 1 hands 1;");
        fault(checks, 1, "man ^abcdefghi plain green 1 hands 1;");
        fault(checks, 1, "man ^zzzzzzzzzzzzzzzzzzzzzzzzzzzzzzzzzzzzzzzz plain green 1 hands 1;");
        fault(checks, 1, "^shadeshade 1;");
        fault(checks, 1, "man a^`");
        fault(checks, 1, "man a^{ plain");
        fault(checks, 1, "man ^{");
        fault(checks, 1, "man ^A plain");
        fault(checks, 1, "man a^Z plain");
        checks.sentence(4, "WORDS (letters a .. z, 8 at most)");
        voyageFault(checks, 2, "below ^abcdefgh;");
        voyageFault(checks, 1, "below ^abcdefghi;");
    }

    private static void numbersOfFourDigits(Checks checks) {
        checks.sentence(3, "NUMBERS (1 to 4 digits); a longer NUMBER, too, at its first sign is none");
        fine(checks, "shade 1;lemon 02;harbour 003;sea 0001 0000;");
        fault(checks, 1, "shade ^00001;");
        fault(checks, 4, "shade ^9999;");
        fault(checks, 1, "shade ^10000;");
        fault(checks, 1, "shade ^" + "0".repeat(40) + "1;");
        fault(checks, 1, "shade ^4294967297;");
        fine(checks, "greens 9999;");
        fault(checks, 1, "greens ^10000;");
        fault(checks, 1, "shade ^/;");
        fault(checks, 1, "shade 1^/;");
        fault(checks, 1, "shade ^:;");
        fault(checks, 1, "shade 1^:");
        fault(checks, 1, "shade ^-1;");
        fault(checks, 1, "shade ^+1;");
        fault(checks, 1, "shade 1^.0;");
    }

    private static void letterBehindNumber(Checks checks) {
        checks.sentence(3, "a letter may stand right behind");
        GreenButtons navy = new GreenButtons();
        checks.same("7hands", Checks.ship(navy, "man a plain green7hands5;post p spray9holds6;"), 0);
        checks.same("green", navy.man(0, 2), 7);
        checks.same("hands", navy.man(0, 1), 5);
        checks.same("spray", navy.post(0, 0), 9);
        fault(checks, 1, "shade 1^a;");
        fault(checks, 1, "man a^1 plain green 1 hands 1;");
    }

    private static void otherSignsAreNone(Checks checks) {
        checks.sentence(3, "the signs ( ) < = + - * ;  All else is none");
        for (char sign = 33; sign < 127; sign++) {
            if (sign >= '0' && sign <= '9' || sign >= 'a' && sign <= 'z') {
                continue;
            }
            boolean joins = "<=+-*".indexOf(sign) >= 0;
            if (joins) {
                fine(checks, "greens 1 " + sign + " 1;");
            } else if (sign == ';') {
                fault(checks, 1, "greens 1 ; ^1;");
            } else {
                fault(checks, 1, "greens 1 ^" + sign + " 1;");
            }
        }
    }

    private static void blanksWhereOneLikes(Checks checks) {
        checks.sentence(3, "blanks (10, 32) between where one likes");
        fine(checks, "greens(now<5)*3+not(wet=0)-1;sea 1 2;");
        fine(checks, "\n\n  greens \n ( now < 5 ) \n * 3 + not ( wet = 0 ) - 1 ; \n sea\n1\n2\n;\n \n");
        fault(checks, 1, "sea\n1 2 \n ^a");
        fault(checks, 1, "^sh ade 1;");
        fault(checks, 4, "sea ^12;");
        fine(checks, "sea 1 2;");
    }

    private static void anyNumberOfLines(Checks checks) {
        checks.sentence(3, "SHIP: any number of");
        fine(checks, "");
        fine(checks, " ");
        fine(checks, "\n");
        fine(checks, "shade 1;");
        fine(checks, SIX + FOUR + "sea 1;shade 1;lemon 1;harbour 1;greens 1;");
        fault(checks, 1, "^;");
        fault(checks, 1, "shade 1;^;");
        checks.sentence(4, "VOYAGE: any number of");
        voyageFine(checks, "");
        voyageFine(checks, " \n");
        voyageFine(checks, "watch;");
        voyageFault(checks, 1, "^;");
        voyageFault(checks, 1, "watch;^;");
    }

    private static void sixMen(Checks checks) {
        checks.sentence(3, "man: 6 at most, numbered as told; 5: the words man of a seventh");
        GreenButtons navy = new GreenButtons();
        checks.same("six", Checks.ship(navy, SIX), 0);
        for (int man = 0; man < 6; man++) {
            checks.same("green of " + man, navy.man(man, 2), man + 1);
        }
        checks.same("count(0)", navy.count(0), 6);
        checks.same("all below", navy.count(8), 63);
        fault(checks, 5, SIX + "^man g plain green 1 hands 1;");
        fault(checks, 5, SIX + "^man");
        fault(checks, 5, SIX + "shade 1;^man a plain green 99 hands 1;");
        fine(checks, SIX + "post g spray 1 holds 1;");
    }

    private static void fourPosts(Checks checks) {
        checks.sentence(3, "post: 4 at most, numbered as told; 5: post of a fifth");
        GreenButtons navy = new GreenButtons();
        checks.same("four", Checks.ship(navy, FOUR), 0);
        for (int post = 0; post < 4; post++) {
            checks.same("spray of " + post, navy.post(post, 0), post + 1);
        }
        checks.same("count(1)", navy.count(1), 4);
        fault(checks, 5, FOUR + "^post t spray 1 holds 1;");
        fault(checks, 5, FOUR + "^post");
        fault(checks, 5, FOUR + "lemon 1;^post p spray 99 holds 1;");
        fine(checks, FOUR + "man t plain green 1 hands 1;");
    }

    /** Numbers from least to most are as told; those next to them, and the greatest, are not. */
    private static void range(Checks checks, String head, int least, int most, String tail) {
        for (int number = least; number <= most; number++) {
            fine(checks, head + number + tail);
        }
        if (least > 0) {
            fault(checks, 4, head + "^" + (least - 1) + tail);
        }
        fault(checks, 4, head + "^" + (most + 1) + tail);
        fault(checks, 4, head + "^9999" + tail);
        fault(checks, 1, head + "^-1" + tail);
        fault(checks, 1, head + "^10000" + tail);
    }

    private static void greenAndHands(Checks checks) {
        checks.sentence(3, "green 0 to 60, hands 0 to 5; 4: a NUMBER that is not as told");
        range(checks, "man a plain green ", 0, 60, " hands 1;");
        range(checks, "man a plain green 1 hands ", 0, 5, ";");
        GreenButtons navy = Checks.launched(Checks.man("a", "boy", 60, 5) + Checks.man("b", "boy", 0, 0));
        GreenButtons six = Checks.launched(Checks.man("a", "plain", 60, 5) + Checks.man("b", "cook", 50, 4) + Checks.man("c", "boy", 40, 3)
            + Checks.man("d", "gold", 30, 2) + Checks.man("e", "cook", 20, 1) + Checks.man("f", "boy", 10, 5));
        int[] hands = {5, 4, 3, 2, 1, 5};
        int[] kinds = {0, 1, 2, 3, 1, 2};
        for (int man = 0; man < 6; man++) {
            checks.same("six, kind of " + man, six.man(man, 0), kinds[man]);
            checks.same("six, hands of " + man, six.man(man, 1), hands[man]);
            checks.same("six, green of " + man, six.man(man, 2), 60 - 10 * man);
        }
        checks.same("green 60", navy.man(0, 2), 60);
        checks.same("hands 5 of a boy, as told", navy.man(0, 1), 5);
        checks.same("green 0", navy.man(1, 2), 0);
        checks.same("hands 0", navy.man(1, 1), 0);
    }

    private static void sprayAndHolds(Checks checks) {
        checks.sentence(3, "spray 0 to 9, holds 1 to 6; 4: a NUMBER that is not as told");
        range(checks, "post p spray ", 0, 9, " holds 1;");
        range(checks, "post p spray 1 holds ", 1, 6, ";");
        GreenButtons navy = Checks.launched(Checks.post("p", 9, 6) + Checks.post("q", 0, 1));
        checks.same("spray 9", navy.post(0, 0), 9);
        checks.same("holds 6", navy.post(0, 1), 6);
        checks.same("spray 0", navy.post(1, 0), 0);
        checks.same("holds 1", navy.post(1, 1), 1);
    }

    private static void seas(Checks checks) {
        checks.sentence(3, "sea 0 to 3 of one watch; 4: a NUMBER that is not as told");
        range(checks, "sea ", 0, 3, ";");
        range(checks, "sea 1 2 ", 0, 3, " 1;");
        fault(checks, 1, "sea ^;");
        fault(checks, 1, "sea ^");
        fault(checks, 1, "sea ^a;");
        checks.same("without one: 1", new GreenButtons().count(6), 1);
        checks.same("a ship without one: 1", Checks.launched(SIX).count(6), 1);
    }

    private static void seaOfTwelve(Checks checks) {
        checks.sentence(3, "sea .. 1 to 12; 5: a thirteenth NUMBER of sea");
        for (int numbers = 1; numbers <= 12; numbers++) {
            fine(checks, "sea" + " 3".repeat(numbers) + ";");
        }
        fault(checks, 5, "sea" + " 3".repeat(12) + " ^3;");
        fault(checks, 5, "sea" + " 3".repeat(12) + " ^0 0 0;");
        fault(checks, 1, "sea" + " 3".repeat(12) + " ^a;");
        fault(checks, 1, "sea" + " 3".repeat(12) + " ^00000;");
        fault(checks, 1, "sea" + " 3".repeat(12) + "^");
    }

    private static void seaAgainAndAgain(Checks checks) {
        checks.sentence(3, "sea .. of one watch behind another, again and again");
        int[] twelve = {0, 1, 2, 3, 3, 2, 1, 0, 0, 2, 3, 1};
        for (int numbers = 1; numbers <= 12; numbers++) {
            StringBuilder text = new StringBuilder("sea");
            for (int i = 0; i < numbers; i++) {
                text.append(' ').append(twelve[i]);
            }
            GreenButtons navy = Checks.launched(text + ";" + Checks.man("a", "plain", 0, 0) + Checks.post("p", 1, 1));
            navy.stand(0, 0);
            int green = 0;
            for (int watch = 0; watch < 26; watch++) {
                checks.same(text + " at " + watch, navy.count(6), twelve[watch % numbers]);
                navy.watch();
                green += twelve[watch % numbers];
                checks.same(text + " green behind " + watch, navy.man(0, 2), green);
            }
        }
    }

    private static void shadeLemonHarbour(Checks checks) {
        checks.sentence(3, "shade 1 to 9 (3). lemon 1 to 20 (5). harbour 0 to 9 (2).");
        range(checks, "shade ", 1, 9, ";");
        range(checks, "lemon ", 1, 20, ";");
        range(checks, "harbour ", 0, 9, ";");
        GreenButtons least = Checks.launched("shade 1;lemon 1;harbour 0;");
        GreenButtons most = Checks.launched("shade 9;lemon 20;harbour 9;");
        GreenButtons untold = Checks.launched("");
        int[][] due = {{1, 9, 3}, {1, 20, 5}, {0, 9, 2}};
        for (int i = 0; i < 3; i++) {
            checks.same("least " + i, least.count(2 + i), due[i][0]);
            checks.same("most " + i, most.count(2 + i), due[i][1]);
            checks.same("untold " + i, untold.count(2 + i), due[i][2]);
        }
    }

    private static void onceEach(Checks checks) {
        checks.sentence(3, "sea, shade, lemon, harbour, greens: once each; 3: a second time");
        for (String word : "sea shade lemon harbour greens".split(" ")) {
            fault(checks, 3, word + " 1;^" + word + " 1;");
            fault(checks, 3, word + " 1;" + SIX + "^" + word);
            fault(checks, 3, word + " 1;" + FOUR + "^" + word + " 9999;");
        }
        fine(checks, "harbour 1;greens 1;lemon 1;sea 1;shade 1;");
        GreenButtons navy = Checks.launched("sea 1;shade 1;lemon 1;harbour 1;greens 1;");
        checks.same("once in the next text", Checks.ship(navy, "sea 2;shade 2;lemon 2;harbour 2;greens 2;"), 0);
        checks.same("a text with a fault", Checks.ship(navy, "sea 2;shade 2;lemon 2;harbour 2;greens 2;?"), 1 + 16 * 41);
        checks.same("once behind a fault", Checks.ship(navy, "sea 2;shade 2;lemon 2;harbour 2;greens 2;"), 0);
    }

    private static void namesAreOtherWords(Checks checks) {
        checks.sentence(3, "A NAME is another WORD than man, green, .., not, and, or");
        for (String word : RESERVED.split(" ")) {
            fault(checks, 1, "man ^" + word + " plain green 1 hands 1;");
            fault(checks, 1, "post ^" + word + " spray 1 holds 1;");
        }
        for (String word : "now sweat wet above ma mann gree greenss no ano n or".replace(" or", " orr").split(" ")) {
            fine(checks, "man " + word + " plain green 1 hands 1;");
            fine(checks, "post " + word + " spray 1 holds 1;");
        }
        checks.sentence(4, "A NAME is another WORD than man, green, .., not, and, or");
        for (String word : RESERVED.split(" ")) {
            voyageFault(checks, 1, "suck ^" + word + ";");
            voyageFault(checks, 1, "stand a ^" + word + ";");
        }
    }

    private static void noTwoAlike(Checks checks) {
        checks.sentence(3, "no two (MEN, POSTS) are alike; 3: a NAME told already");
        String man = "man x plain green 1 hands 1;";
        String post = "post x spray 1 holds 1;";
        fault(checks, 3, man + "man ^x plain green 1 hands 1;");
        fault(checks, 3, man + "post ^x spray 1 holds 1;");
        fault(checks, 3, post + "man ^x plain green 1 hands 1;");
        fault(checks, 3, post + "post ^x spray 1 holds 1;");
        String five = SIX.substring(0, SIX.lastIndexOf("man"));
        for (String name : "a b c d e".split(" ")) {
            fault(checks, 3, five + "man ^" + name + " plain");
            fault(checks, 3, SIX + "post ^" + name);
        }
        for (String name : "p q r".split(" ")) {
            fault(checks, 3, FOUR.substring(0, FOUR.lastIndexOf("post")) + "post ^" + name);
            fault(checks, 3, FOUR + "man ^" + name);
        }
        fault(checks, 3, "man abcdefgh plain green 1 hands 1;post ^abcdefgh spray");
        fine(checks, man + "man xx plain green 1 hands 1;man y plain green 1 hands 1;");
        fine(checks, "man a plain green 1 hands 1;man aa plain green 1 hands 1;man aaa plain green 1 hands 1;man aaaaaaaa plain green 1 hands 1;"
            + "man z plain green 1 hands 1;man az plain green 1 hands 1;post b spray 1 holds 1;post ab spray 1 holds 1;post ba spray 1 holds 1;"
            + "post zzzzzzzz spray 1 holds 1;");
        GreenButtons navy = Checks.launched(man);
        checks.same("the last ship's names are free", Checks.ship(navy, man), 0);
        checks.same("a fault behind a name", Checks.ship(navy, "man y plain green 61"), 4 + 16 * 18);
        checks.same("that name is free", Checks.ship(navy, "man y plain green 6 hands 1;"), 0);
    }

    private static void withinFive(Checks checks) {
        checks.sentence(3, "no PART lies within 5 of not and ( ); 5: not, or a PART, within 5 others");
        for (int depth = 0; depth <= 5; depth++) {
            for (int mix = 0; mix < 1 << depth; mix++) {
                StringBuilder head = new StringBuilder("greens ");
                StringBuilder tail = new StringBuilder();
                for (int i = 0; i < depth; i++) {
                    boolean opens = (mix >> i & 1) == 1;
                    head.append(opens ? "(" : "not ");
                    tail.append(opens ? ")" : "");
                }
                for (String part : "0 9999 now sweat wet above".split(" ")) {
                    if (depth < 5) {
                        fine(checks, head + part + tail + ";");
                    } else {
                        fault(checks, 5, head + "^" + part + tail + ";");
                    }
                }
                if (depth == 5) {
                    fault(checks, 5, head + "^(1)" + tail + ";");
                    fault(checks, 5, head + "^not 1" + tail + ";");
                }
            }
        }
        fine(checks, "greens ((((1 + 2 * 3 < 4 and 5)))) + ((((1)))) and not not not not 1;");
        fault(checks, 5, "greens ((((1 + (^2)))));");
        fault(checks, 5, "greens ((((1)))) * not not not not not ^2;");
        fine(checks, "greens not not not (1) + not not not (1);");
        String four = "0 or 1 < 2 - 1 * (".repeat(4);
        rises(checks, four + "0 or 1 < 2 - 1 * 0))))", 1);
        rises(checks, four + "0 or 1 < 2 - 1 * 1))))", 0);
    }

    private static void testsOnce(Checks checks) {
        checks.sentence(3, "TEST: SUM, or SUM < SUM, or SUM = SUM");
        fault(checks, 1, "greens 1 < 2 ^< 3;");
        fault(checks, 1, "greens 1 < 2 ^= 3;");
        fault(checks, 1, "greens 1 = 2 ^< 3;");
        fault(checks, 1, "greens 1 = 2 ^= 3;");
        fine(checks, "greens 1 < 2 and 2 = 3 or 3 < 4;");
        fine(checks, "greens (1 < 2) < 3;");
        fault(checks, 1, "greens ^;");
        fault(checks, 1, "greens (^);");
        fault(checks, 1, "greens 1 <^;");
        fault(checks, 1, "greens ^< 1;");
        fault(checks, 1, "greens 1 ^1;");
        fault(checks, 1, "greens 1^);");
        fault(checks, 1, "greens (1^;");
    }

    private static int risenBy(String law) {
        GreenButtons navy = Checks.launched("greens " + law + ";" + Checks.man("a", "plain", 10, 0));
        navy.watch();
        return navy.man(0, 2) - 10;
    }

    private static void rises(Checks checks, String law, int due) {
        checks.same("greens " + law, risenBy(law), due);
    }

    private static void intsWrap(Checks checks) {
        checks.sentence(3, "ints wrap");
        String turn = "4096 * 16 * 4096 * 16";
        String least = "4096 * 16 * 4096 * 8";
        rises(checks, turn + " + 7", 7);
        rises(checks, turn + " + 0", 0);
        rises(checks, turn + " = 0", 1);
        rises(checks, least, 0);
        rises(checks, least + " - 1", 9);
        rises(checks, "0 - " + least, 0);
        rises(checks, least + " = 0 - " + least, 1);
        rises(checks, least + " < 1", 1);
        rises(checks, "1 < " + least, 0);
        rises(checks, least + " - 1 < 0 - 1", 0);
        rises(checks, least + " + " + least + " + 3", 3);
        rises(checks, "0 - 1 - " + least, 9);
    }

    private static void notZeroIsSo(Checks checks) {
        checks.sentence(3, "Of not, and, or, < and = comes 1 or 0; what is not 0 is so");
        rises(checks, "not 0", 1);
        rises(checks, "not 1", 0);
        rises(checks, "not 2", 0);
        rises(checks, "not (0 - 1)", 0);
        rises(checks, "not (4096 * 16 * 4096 * 8)", 0);
        rises(checks, "2 and 4", 1);
        rises(checks, "0 - 1 and 1", 1);
        rises(checks, "0 and 5", 0);
        rises(checks, "5 and 0", 0);
        rises(checks, "2 or 4", 1);
        rises(checks, "0 or 0", 0);
        rises(checks, "0 - 1 or 0", 1);
        rises(checks, "0 or 0 - 1", 1);
        rises(checks, "2 < 3", 1);
        rises(checks, "3 < 3", 0);
        rises(checks, "3 = 3", 1);
        rises(checks, "3 = 2", 0);
        rises(checks, "1 or 1 and 0", 0);
        rises(checks, "not 5 + 3", 3);
        rises(checks, "(5 and 0) + 3", 3);
        rises(checks, "(0 or 0) + 3", 3);
        rises(checks, "(3 < 3) + 3", 3);
        rises(checks, "(3 = 4) + 3", 3);
    }

    private static void endIsAToken(Checks checks) {
        checks.sentence(3, "the place (from 0) of a token, the end being one at the text's length");
        String text = "man a plain green 1 hands 1";
        int[] places = {3, 5, 11, 17, 19, 25, 27};
        for (int place : places) {
            fault(checks, 1, text.substring(0, place) + "^");
            fault(checks, 1, text.substring(0, place) + "  \n^");
        }
        fault(checks, 1, "greens ^");
        fault(checks, 1, "greens not ^");
        fault(checks, 1, "greens 1 +^");
        fault(checks, 1, "greens (1^");
        fault(checks, 1, "sea 1^");
        fault(checks, 1, "^?");
        checks.sentence(4, "the place (from 0) of a token, the end being one at the text's length");
        voyageFault(checks, 1, "watch^");
        voyageFault(checks, 1, "watch \n ^");
        voyageFault(checks, 1, "stand^");
        voyageFault(checks, 1, "stand a ^");
        voyageFault(checks, 1, "stand a p^");
    }

    private static void firstFromTheLeft(Checks checks) {
        checks.sentence(3, "of the first token from the left that is wrong");
        fault(checks, 4, "man a plain green ^61 hands 6 ?");
        fault(checks, 4, "shade ^0;shade 0;");
        fault(checks, 1, "^A man man");
        fault(checks, 3, "shade 1;^shade 10 ?");
        fault(checks, 5, "greens (((((^1 1 ?");
        checks.sentence(4, "of the first token from the left that is wrong");
        voyageFault(checks, 2, "stand ^x y ?");
        voyageFault(checks, 2, "stand a ^y ?");
        voyageFault(checks, 1, "watch ^watch; below x;");
    }

    private static void theLeastKind(Checks checks) {
        checks.sentence(3, "of the first token from the left that is wrong the least");
        fault(checks, 4, "sea" + " 1".repeat(12) + " ^4;");
        fault(checks, 5, "sea" + " 1".repeat(12) + " ^3;");
        for (String wrong : ") ; + - * < = and or man x abcdefghi 12345 ? greens".split(" ")) {
            fault(checks, 1, "greens (((((^" + wrong);
        }
        fault(checks, 1, "greens (((((^");
        checks.sentence(4, "of the first token from the left that is wrong the least");
        for (String wrong : "man x ; 1 ? abcdefghi not".split(" ")) {
            voyageFault(checks, 1, "dock;".repeat(40) + "^" + wrong);
        }
    }

    private static void allStaysByAFault(Checks checks) {
        checks.sentence(3, "0, or its FAULT (all stays then)");
        String[] wrong = {"?", SIX + "man", FOUR + "sea 4;", "shade 9;lemon 19;harbour 9;sea 3 3 3;greens 9", SIX + FOUR + "greens 9;greens",
            "man z gold green 60 hands 5;post y spray 9 holds 6;shade 0;"};
        for (String text : wrong) {
            GreenButtons navy = Checks.launched(SAILED);
            Checks.voyage(navy, "stand a p;watch;fall a;below b;");
            navy.see(0, 1, 1, false);
            navy.stand(1, 0);
            navy.watch();
            navy.suck(0);
            navy.mark(2, false);
            String ahead = Checks.state(navy);
            checks.is("a fault in " + text, Checks.ship(navy, text) > 0);
            checks.is("all stays by " + text, Checks.state(navy).equals(ahead));
            navy.watch();
            checks.same("the law stays by " + text, navy.man(1, 2), 26);
            checks.is("undo stays by " + text, navy.undo() && navy.undo());
            checks.same("what was undone by " + text, navy.man(0, 4), 0);
            checks.is("the mark stays by " + text, navy.mark(2, true));
            checks.same("the names stay by " + text, Checks.voyage(navy, "stand b p;"), 0);
        }
    }

    private static void shipFromThenOn(Checks checks) {
        checks.sentence(3, "watch 0, all below, greens as told, no lemon used, no VOYAGE, nothing SEEN, nothing can be undone, no MARK is there");
        GreenButtons navy = Checks.launched(SAILED);
        Checks.voyage(navy, "stand a p;watch;");
        navy.see(0, 1, 1, false);
        navy.stand(1, 0);
        navy.watch();
        navy.suck(0);
        for (int mark = 0; mark < 4; mark++) {
            navy.mark(mark, false);
        }
        checks.same("the same ship again", Checks.ship(navy, SAILED), 0);
        int[] due = {2, 1, 4, 6, 7, 0, 2, 30, 3, 0, 0, 0, 0};
        for (int what = 0; what < due.length; what++) {
            checks.same("count(" + what + ")", navy.count(what), due[what]);
        }
        checks.same("green", navy.man(0, 2), 10);
        checks.same("lemon", navy.man(0, 4), 0);
        checks.same("post", navy.man(1, 3), -1);
        checks.isNot("undo()", navy.undo());
        for (int mark = 0; mark < 4; mark++) {
            checks.isNot("mark(" + mark + ", true)", navy.mark(mark, true));
        }
        checks.same("an empty one", navy.ship(), 0);
        int[] none = {0, 0, 3, 5, 2, 0, 1, 0, 0, 0, 0, 0, 0};
        for (int what = 0; what < none.length; what++) {
            checks.same("empty, count(" + what + ")", navy.count(what), none[what]);
        }
        checks.same("the last ship's man", Checks.voyage(navy, "suck a;"), 2 + 16 * 5);
        Checks.ship(navy, Checks.man("a", "boy", 10, 2));
        navy.watch();
        checks.same("without greens: wet + sweat", navy.man(0, 2), 14);
    }

    private static void lawFromThenOn(Checks checks) {
        checks.sentence(3, "Without a FAULT a SHIP is the SHIP from then on (its greens, too)");
        GreenButtons navy = new GreenButtons();
        for (int i = 0; i < 30; i++) {
            int rise = i % 9 + 1;
            checks.same("ship " + i, Checks.ship(navy, Checks.man("a", "plain", 0, 0) + Checks.man("b", "boy", 9, 5) + "greens " + rise + ";"), 0);
            navy.watch();
            checks.same("green by the law of ship " + i, navy.man(0, 2), rise);
            checks.same("green of b by the law of ship " + i, navy.man(1, 2), 9 + rise);
        }
        for (int rise = 1; rise < 9; rise++) {
            Checks.ship(navy, Checks.man("a", "plain", 0, 0) + "greens 0" + "+0".repeat(220) + "+1".repeat(rise) + ";");
            navy.watch();
            checks.same("long laws, one behind another", navy.man(0, 2), rise);
        }
        Checks.ship(navy, Checks.man("a", "plain", 0, 4));
        navy.watch();
        checks.same("without greens again", navy.man(0, 2), 4);
        GreenButtons seas = Checks.launched("sea 0 3 3 3 3 3 3 3 3 3 3 3;");
        Checks.ship(seas, Checks.man("a", "plain", 0, 0));
        for (int watch = 0; watch < 13; watch++) {
            checks.same("without a sea again, at " + watch, seas.count(6), 1);
            seas.watch();
        }
        Checks.ship(seas, "sea 2;");
        for (int watch = 0; watch < 13; watch++) {
            checks.same("a shorter sea, at " + watch, seas.count(6), 2);
            seas.watch();
        }
    }

    private static void voyageNames(Checks checks) {
        checks.sentence(4, "2 a NAME of no MAN (behind stand, below, suck, fall), of no POST (the second of stand) told");
        for (String verb : "below suck fall".split(" ")) {
            voyageFine(checks, verb + " a;" + verb + " b;");
            voyageFault(checks, 2, verb + " ^c;");
            voyageFault(checks, 2, verb + " ^p;");
            voyageFault(checks, 1, verb + " a ^p;");
            voyageFault(checks, 1, verb + " ^;");
        }
        voyageFine(checks, "stand a p;");
        voyageFault(checks, 2, "stand ^c p;");
        voyageFault(checks, 2, "stand ^p p;");
        voyageFault(checks, 2, "stand a ^a;");
        voyageFault(checks, 2, "stand a ^q;");
        voyageFault(checks, 1, "stand a ^;");
        voyageFault(checks, 1, "watch ^a;");
        voyageFault(checks, 1, "dock ^a;");
        GreenButtons nobody = new GreenButtons();
        checks.same("no ship: suck a", Checks.voyage(nobody, "suck a;"), 2 + 16 * 5);
        checks.same("no ship: watch", Checks.voyage(nobody, "watch;dock;"), 0);
        GreenButtons full = Checks.launched(SIX + FOUR);
        checks.same("the last man and post", Checks.voyage(full, "stand f s;stand a p;"), 0);
    }

    private static void fortyLines(Checks checks) {
        checks.sentence(4, "40 lines at most; 5: the first word of a 41st line of a VOYAGE");
        GreenButtons navy = Checks.launched(SAILED);
        checks.same("39", Checks.voyage(navy, "dock;".repeat(39)), 0);
        checks.same("39 lines", navy.count(9), 39);
        checks.same("40", Checks.voyage(navy, "watch;".repeat(39) + "below a;\n "), 0);
        checks.same("40 lines", navy.count(9), 40);
        checks.same("the fortieth is judged", navy.judged(0), 39);
        checks.same("41", Checks.voyage(navy, "dock;".repeat(40) + "watch;"), 5 + 16 * 200);
        checks.same("40 lines stay", navy.count(9), 40);
        checks.same("and are as they were", navy.judged(0), 39);
        for (String verb : "stand below suck fall watch dock".split(" ")) {
            voyageFault(checks, 5, "dock;".repeat(40) + "^" + verb);
            voyageFault(checks, 5, "dock;".repeat(40) + "  ^" + verb + " x y;");
        }
        voyageFault(checks, 2, "dock;".repeat(39) + "suck ^x;watch;");
    }

    private static void voyageStaysByAFault(Checks checks) {
        checks.sentence(4, "likewise: 0, or its FAULT (all stays then)");
        for (String text : new String[] {"?", "watch;watch;watch", "suck a;suck x;", "stand a p;below a;" + "dock;".repeat(39)}) {
            GreenButtons navy = Checks.launched(SAILED);
            Checks.voyage(navy, "fall a;below b;");
            navy.see(0, 1, 1, false);
            navy.stand(0, 0);
            navy.mark(0, false);
            String ahead = Checks.state(navy);
            checks.is("a fault in " + text, Checks.voyage(navy, text) > 0);
            checks.is("all stays by " + text, Checks.state(navy).equals(ahead));
            checks.is("the mark stays by " + text, navy.mark(0, true));
        }
        GreenButtons navy = Checks.launched(SAILED);
        navy.stand(0, 0);
        navy.watch();
        navy.see(0, 1, 1, false);
        Checks.voyage(navy, "dock;dock;");
        checks.same("a VOYAGE changes nothing else: undo", navy.count(11), 2);
        checks.same("a VOYAGE changes nothing else: SEEN", navy.count(10), 1);
        checks.same("a VOYAGE changes nothing else: POST", navy.man(0, 3), 0);
    }
}
