import java.util.Arrays;
import java.util.NoSuchElementException;

/** A navy in which the greener a man's buttons are, the higher he ranks. The promises are in ../shared/DOC.md. */
public final class GreenButtons {
    public static final int NONE = -1;

    private static final int MOST_MEN = 6;
    private static final int MOST_POSTS = 4;
    private static final int MOST_SEAS = 12;
    private static final int MOST_SIGNS = 1000;
    private static final int MOST_LINES = 40;
    private static final int MOST_SEEN = 8;
    private static final int MOST_GREEN = 99;
    private static final int MOST_UNDONE = 16;
    private static final int MOST_MARKS = 4;
    private static final int LONGEST_WAIT = 60;
    private static final int LONGEST_PLAN = 12;
    private static final int LONGEST_SIGHT = 20;
    private static final int LONGEST_CHANCE = 6;
    private static final int LONGEST_VOYAGE = 99;
    private static final int LAST_SEED = 9999;
    private static final int NO_SUCH = -2;
    private static final int NO_STATION = -3;

    private final Tokens tape;
    private final Ship ship;
    private final ShipReader shipReader;
    private final Voyage voyageDraft;
    private final Log log;
    private final Crew trial;
    private final Forecast forecast;
    private final Stations deals;
    private final Suspects suspects;
    private final Crew[] past;
    private final Log[] marks;
    private int pastNext;
    private int pastCount;

    public GreenButtons() {
        tape = new Tokens();
        ship = new Ship();
        shipReader = new ShipReader(tape);
        voyageDraft = new Voyage();
        log = new Log(ship);
        trial = new Crew(ship);
        forecast = new Forecast(ship, log.crew, trial);
        deals = new Stations(ship, log.crew, trial);
        suspects = new Suspects(ship, log, trial);
        past = new Crew[MOST_UNDONE];
        for (int i = 0; i < MOST_UNDONE; i++) {
            past[i] = new Crew(ship);
        }
        marks = new Log[MOST_MARKS];
        for (int i = 0; i < MOST_MARKS; i++) {
            marks[i] = new Log(ship);
        }
    }

    public int feed(long a, long b, long c) {
        tape.addSigns(a);
        tape.addSigns(b);
        tape.addSigns(c);
        return tape.length;
    }

    public int ship() {
        int fault = shipReader.read();
        tape.length = 0;
        if (fault == 0) {
            launch();
        }
        return fault;
    }

    public int voyage() {
        int fault = voyageDraft.read(tape, ship);
        tape.length = 0;
        if (fault == 0) {
            log.voyage.copyFrom(voyageDraft);
        }
        return fault;
    }

    public int man(int man, int what) {
        if (!ship.isMan(man)) {
            return NO_SUCH;
        }
        switch (what) {
            case 0: return ship.kind[man];
            case 1: return ship.hands[man];
            case 2: return log.crew.green[man];
            case 3: return log.crew.place[man];
            case 4: return log.crew.hasSucked(man) ? 1 : 0;
            case 5: return log.crew.rankOf(man);
            default: return NO_SUCH;
        }
    }

    public int post(int post, int what) {
        if (!ship.isPost(post)) {
            return NONE;
        }
        switch (what) {
            case 0: return ship.spray[post];
            case 1: return ship.holds[post];
            case 2: return log.crew.standingAt(post);
            default: return NONE;
        }
    }

    public boolean stand(int man, int post) {
        if (!log.crew.canStand(man, post)) {
            return false;
        }
        keepPast();
        return log.crew.standAt(man, post);
    }

    public boolean below(int man) {
        if (!log.crew.canGoBelow(man)) {
            return false;
        }
        keepPast();
        return log.crew.goBelow(man);
    }

    public int suck(int man) {
        if (!log.crew.canSuck(man)) {
            return NONE;
        }
        keepPast();
        log.crew.suckLemon(man);
        return log.crew.green[man];
    }

    public int fall(int man) {
        if (!ship.isMan(man)) {
            return NONE;
        }
        keepPast();
        log.crew.fallIn(man);
        return log.crew.green[man];
    }

    public int watch() {
        keepPast();
        log.crew.passWatch(log.crew.seaNow());
        return log.crew.over;
    }

    public int dock() {
        keepPast();
        log.crew.enterHarbour();
        return log.crew.allGreens();
    }

    public boolean undo() {
        if (pastCount < 1) {
            return false;
        }
        pastCount--;
        pastNext = pastNext > 0 ? pastNext - 1 : MOST_UNDONE - 1;
        log.crew.copyFrom(past[pastNext]);
        return true;
    }

    public int judged(int what) {
        return isWithin(what, 0, 2) ? log.voyage.verdict(trial, what) : NO_SUCH;
    }

    public int captain() {
        return log.crew.leader();
    }

    public int argues(int man) {
        return ship.isMan(man) ? log.crew.quarrelling(man) : NONE;
    }

    public int salutes(int man) {
        return ship.isMan(man) ? log.crew.saluted(man) : NONE;
    }

    public int when(int man) {
        return ship.isMan(man) ? forecast.untilLeading(man) : NONE;
    }

    public int passes(int man, int other) {
        return ship.isPair(man, other) ? forecast.untilGreener(man, other) : NONE;
    }

    public int changes(int watches) {
        return isWithin(watches, 1, LONGEST_WAIT) ? forecast.leaderTurns(watches) : NONE;
    }

    public int stations(int man, int watches, int what) {
        boolean asked = ship.isMan(man) && isWithin(watches, 1, LONGEST_PLAN);
        if (!asked || !isWithin(what, -2, ship.men - 1)) {
            return NO_STATION;
        }
        deals.find(man, watches);
        if (what == -2) {
            return deals.bestRank;
        }
        return what == NONE ? deals.bestSpray : deals.bestRow[what];
    }

    public int lemons(int man, int watches) {
        boolean asked = ship.isMan(man) && isWithin(watches, 1, LONGEST_PLAN);
        return asked ? forecast.fewestSucking(man, watches) : NONE;
    }

    public int docks(int man) {
        return ship.isMan(man) ? forecast.harboursUntilTurn(man) : NONE;
    }

    public int twins() {
        return log.crew.equalPairs();
    }

    public int shades() {
        return log.crew.differentShades();
    }

    public int first(int man, int other) {
        return ship.isPair(man, other) ? forecast.soonerLeading(man, other) : NONE;
    }

    public boolean see(int man, int other, int watches, boolean greener) {
        boolean told = ship.isPair(man, other) && isWithin(watches, 0, LONGEST_SIGHT);
        return told && log.seen.add(man, other, watches, greener);
    }

    public int sets(int what) {
        return isWithin(what, 0, 2) ? suspects.fittingSets(what) : NONE;
    }

    public int ask(int watches) {
        return isWithin(watches, 0, LONGEST_SIGHT) ? suspects.bestPair(watches) : NONE;
    }

    public int chance(int man, int watches, int odds) {
        boolean asked = ship.isMan(man) && isWithin(watches, 1, LONGEST_CHANCE) && isWithin(odds, 0, 10);
        return asked ? forecast.leadingMillionths(man, watches, odds) : NONE;
    }

    public int rests(int both, int gets, int loses, int what) throws NoSuchElementException {
        boolean told = isWithin(both, 0, 9) && isWithin(gets, 0, 9) && isWithin(loses, 0, 9);
        if (!told || what < NONE) {
            throw new NoSuchElementException("no such game");
        }
        int found = 0;
        for (int choices = 0; choices < 4; choices++) {
            if (isAtRest(both, gets, loses, choices)) {
                if (found == what) {
                    return choices;
                }
                found++;
            }
        }
        if (what != NONE) {
            throw new NoSuchElementException("no such rest");
        }
        return found;
    }

    public int voyages(int seed, int watches, int what) {
        boolean asked = isWithin(seed, 0, LAST_SEED) && isWithin(watches, 1, LONGEST_VOYAGE) && isWithin(what, 0, 2);
        return asked ? forecast.sail(seed, watches, what) : NO_SUCH;
    }

    public boolean mark(int mark, boolean back) {
        if (!isWithin(mark, 0, MOST_MARKS - 1) || (back && !marks[mark].laid)) {
            return false;
        }
        if (back) {
            log.copyFrom(marks[mark]);
            pastCount = 0;
        } else {
            marks[mark].copyFrom(log);
            marks[mark].laid = true;
        }
        return true;
    }

    public int count(int what) {
        switch (what) {
            case 0: return ship.men;
            case 1: return ship.posts;
            case 2: return ship.shade;
            case 3: return ship.lemon;
            case 4: return ship.harbour;
            case 5: return log.crew.over;
            case 6: return log.crew.seaNow();
            case 7: return log.crew.allGreens();
            case 8: return log.crew.standingAt(NONE);
            case 9: return log.voyage.lines;
            case 10: return log.seen.size;
            case 11: return pastCount;
            case 12: return tape.length;
            default: return NONE;
        }
    }

    private void launch() {
        ship.copyFrom(shipReader.draft);
        log.crew.boardAnew();
        log.voyage.lines = 0;
        log.seen.size = 0;
        pastCount = 0;
        for (int i = 0; i < MOST_MARKS; i++) {
            marks[i].laid = false;
        }
    }

    private void keepPast() {
        if (pastNext >= MOST_UNDONE) {
            pastNext = 0;
        }
        past[pastNext].copyFrom(log.crew);
        pastNext = (pastNext + 1) % MOST_UNDONE;
        pastCount = Math.min(MOST_UNDONE, pastCount + 1);
    }

    private static boolean isWithin(int number, int least, int most) {
        return number >= least && number <= most;
    }

    private static boolean isAtRest(int both, int gets, int loses, int choices) {
        int one = choices >> 1;
        int other = choices & 1;
        boolean oneRests = payOf(both, gets, loses, one, other) >= payOf(both, gets, loses, 1 - one, other);
        boolean otherRests = payOf(both, gets, loses, other, one) >= payOf(both, gets, loses, 1 - other, one);
        return oneRests && otherRests;
    }

    private static int payOf(int both, int gets, int loses, int own, int others) {
        if (own == 1) {
            return others == 1 ? -both : gets;
        }
        return others == 1 ? -loses : 0;
    }

    /** The TAPE, and the token that is being looked at. */
    private static final class Tokens {
        static final int CANT_STAND = 1;
        static final int UNKNOWN = 2;
        static final int TOLD_ALREADY = 3;
        static final int NOT_AS_TOLD = 4;
        static final int TOO_MANY = 5;

        private static final int END = 0;
        private static final int WORD = 1;
        private static final int NUMBER = 2;
        private static final int SIGN = 3;
        private static final int NO_TOKEN = 4;
        private static final int MOST_LETTERS = 8;
        private static final int MOST_DIGITS = 4;
        private static final String SIGNS = "()<=+-*;";
        private static final String RESERVED = "man green hands post spray holds sea shade lemon harbour greens stand below suck fall watch dock plain cook boy gold not and or";

        private final byte[] signs = new byte[MOST_SIGNS];
        private int kind;
        private int start;
        private int next;
        int length;
        int number;
        int taken;
        long name;
        int fault;

        void addSigns(long eight) {
            for (int shift = 56; shift >= 0; shift -= 8) {
                int sign = (int) (eight >>> shift) & 255;
                boolean fits = sign == 10 || (sign >= 32 && sign <= 126);
                if (fits && length < MOST_SIGNS) {
                    signs[length] = (byte) sign;
                    length++;
                }
            }
        }

        void begin() {
            next = 0;
            fault = 0;
            advance();
        }

        void advance() {
            while (next < length && (signs[next] == 10 || signs[next] == 32)) {
                next++;
            }
            start = next;
            if (next >= length) {
                kind = END;
            } else if (signs[next] >= 'a' && signs[next] <= 'z') {
                readWord();
            } else if (signs[next] >= '0' && signs[next] <= '9') {
                readNumber();
            } else {
                kind = SIGNS.indexOf((char) signs[next]) >= 0 ? SIGN : NO_TOKEN;
                next++;
            }
        }

        /** The letters count as digits of a number of their own: names are kept and told apart without texts. */
        private void readWord() {
            name = 0;
            while (next < length && signs[next] >= 'a' && signs[next] <= 'z') {
                name = name * 27 + signs[next] - 'a' + 1;
                next++;
            }
            kind = next - start <= MOST_LETTERS ? WORD : NO_TOKEN;
        }

        private void readNumber() {
            number = 0;
            while (next < length && signs[next] >= '0' && signs[next] <= '9') {
                number = number * 10 + signs[next] - '0';
                next++;
            }
            kind = next - start <= MOST_DIGITS ? NUMBER : NO_TOKEN;
        }

        boolean isEnd() {
            return kind == END;
        }

        boolean isNumber() {
            return kind == NUMBER;
        }

        boolean isSign(char sign) {
            return kind == SIGN && start < length && signs[start] == sign;
        }

        boolean isName() {
            return kind == WORD && placeIn(RESERVED) == NONE;
        }

        /** Which of the list's words, told with a blank between, this token is. */
        int placeIn(String list) {
            if (kind != WORD) {
                return NONE;
            }
            int place = 0;
            int alike = 0;
            for (int i = 0; i <= list.length(); i++) {
                char sign = i < list.length() ? list.charAt(i) : ' ';
                if (sign == ' ') {
                    if (alike == next - start) {
                        return place;
                    }
                    place++;
                    alike = 0;
                } else if (alike >= 0 && start + alike < next && signs[start + alike] == sign) {
                    alike++;
                } else {
                    alike = NONE;
                }
            }
            return NONE;
        }

        /** Always false, so that a reader can answer with it. */
        boolean refuse(int faultKind) {
            fault = faultKind + 16 * start;
            return false;
        }

        boolean takeSign(char sign) {
            if (!isSign(sign)) {
                return refuse(CANT_STAND);
            }
            advance();
            return true;
        }

        boolean takeWord(String word) {
            if (placeIn(word) == NONE) {
                return refuse(CANT_STAND);
            }
            advance();
            return true;
        }

        boolean takeNumber(int least, int most) {
            if (kind != NUMBER) {
                return refuse(CANT_STAND);
            }
            if (!isWithin(number, least, most)) {
                return refuse(NOT_AS_TOLD);
            }
            taken = number;
            advance();
            return true;
        }
    }

    /** The law of how one greens: its E as steps that work on a stack. */
    private static final class Law {
        private static final int NUMBER = 0;
        private static final int NOW = 1;
        private static final int SWEAT = 2;
        private static final int WET = 3;
        private static final int ABOVE = 4;
        private static final int NOT = 5;
        private static final int AND = 6;
        private static final int OR = 7;
        private static final int LESS = 8;
        private static final int SAME = 9;
        private static final int PLUS = 10;
        private static final int MINUS = 11;
        private static final int TIMES = 12;
        private static final int DEEPEST = 5;
        private static final int STACK = 32;
        private static final int KNOWN = 4096;
        private static final int MOST_RISE = 9;

        private final int[] steps = new int[MOST_SIGNS];
        private final int[] stack = new int[STACK];
        private final int[] known = new int[KNOWN];
        private int size;
        boolean looksAbove;

        Law() {
            Arrays.fill(known, NONE);
        }

        void beUsual() {
            clear();
            addStep(WET, 0);
            addStep(SWEAT, 0);
            addStep(PLUS, 0);
        }

        void copyFrom(Law other) {
            size = other.size;
            looksAbove = other.looksAbove;
            System.arraycopy(other.steps, 0, steps, 0, MOST_SIGNS);
            Arrays.fill(known, NONE);
        }

        boolean read(Tokens tokens) {
            clear();
            return readAll(tokens, 0);
        }

        private void clear() {
            size = 0;
            looksAbove = false;
        }

        private void addStep(int kind, int value) {
            if (size < MOST_SIGNS) {
                steps[size] = kind + 16 * value;
                size++;
            }
        }

        private boolean readAll(Tokens tokens, int depth) {
            boolean fine = readTest(tokens, depth);
            for (int i = 0; fine && i < MOST_SIGNS; i++) {
                int place = tokens.placeIn("and or");
                if (place == NONE) {
                    return true;
                }
                tokens.advance();
                fine = readTest(tokens, depth);
                addStep(place == 0 ? AND : OR, 0);
            }
            return fine;
        }

        private boolean readTest(Tokens tokens, int depth) {
            if (!readSum(tokens, depth)) {
                return false;
            }
            boolean less = tokens.isSign('<');
            if (!less && !tokens.isSign('=')) {
                return true;
            }
            tokens.advance();
            boolean fine = readSum(tokens, depth);
            addStep(less ? LESS : SAME, 0);
            return fine;
        }

        private boolean readSum(Tokens tokens, int depth) {
            boolean fine = readProduct(tokens, depth);
            for (int i = 0; fine && i < MOST_SIGNS; i++) {
                boolean plus = tokens.isSign('+');
                if (!plus && !tokens.isSign('-')) {
                    return true;
                }
                tokens.advance();
                fine = readProduct(tokens, depth);
                addStep(plus ? PLUS : MINUS, 0);
            }
            return fine;
        }

        private boolean readProduct(Tokens tokens, int depth) {
            boolean fine = readPart(tokens, depth);
            for (int i = 0; fine && i < MOST_SIGNS; i++) {
                if (!tokens.isSign('*')) {
                    return true;
                }
                tokens.advance();
                fine = readPart(tokens, depth);
                addStep(TIMES, 0);
            }
            return fine;
        }

        private boolean readPart(Tokens tokens, int depth) {
            int fact = tokens.placeIn("now sweat wet above");
            boolean denies = tokens.placeIn("not") == 0;
            boolean opens = tokens.isSign('(');
            boolean plain = fact != NONE || tokens.isNumber();
            if (!plain && !denies && !opens) {
                return tokens.refuse(Tokens.CANT_STAND);
            }
            if (depth >= DEEPEST) {
                return tokens.refuse(Tokens.TOO_MANY);
            }
            if (plain) {
                addStep(fact == NONE ? NUMBER : NOW + fact, fact == NONE ? tokens.number : 0);
                looksAbove = looksAbove || NOW + fact == ABOVE;
            }
            tokens.advance();
            if (opens) {
                return readAll(tokens, depth + 1) && tokens.takeSign(')');
            }
            if (denies) {
                boolean fine = readPart(tokens, depth + 1);
                addStep(NOT, 0);
                return fine;
            }
            return true;
        }

        /** The same facts come again and again when stations are dealt, so answers are kept where they fit. */
        int riseFor(int now, int sweat, int wet, int above) {
            int key = ((now * 11 + sweat) * 28 + wet) * 6 + above;
            int slot = key & (KNOWN - 1);
            if (known[slot] >> 4 != key) {
                int rise = Math.max(0, Math.min(MOST_RISE, valueFor(now, sweat, wet, above)));
                known[slot] = key * 16 + rise;
            }
            return known[slot] & 15;
        }

        private int valueFor(int now, int sweat, int wet, int above) {
            int top = 0;
            for (int i = 0; i < size; i++) {
                int kind = steps[i] & 15;
                if (kind <= ABOVE && top < STACK) {
                    stack[top] = factOf(steps[i], now, sweat, wet, above);
                    top++;
                } else if (kind == NOT && top > 0) {
                    stack[top - 1] = stack[top - 1] == 0 ? 1 : 0;
                } else if (top > 1) {
                    top--;
                    stack[top - 1] = joined(kind, stack[top - 1], stack[top]);
                }
            }
            return top > 0 ? stack[top - 1] : 0;
        }

        private static int factOf(int step, int now, int sweat, int wet, int above) {
            switch (step & 15) {
                case NOW: return now;
                case SWEAT: return sweat;
                case WET: return wet;
                case ABOVE: return above;
                default: return step >> 4;
            }
        }

        private static int joined(int kind, int left, int right) {
            switch (kind) {
                case AND: return left != 0 && right != 0 ? 1 : 0;
                case OR: return left != 0 || right != 0 ? 1 : 0;
                case LESS: return left < right ? 1 : 0;
                case SAME: return left == right ? 1 : 0;
                case PLUS: return left + right;
                case MINUS: return left - right;
                default: return left * right;
            }
        }
    }

    /** What is told of a SHIP. */
    private static final class Ship {
        static final int COOK = 1;
        static final int BOY = 2;
        static final int GOLD = 3;

        final int[] kind = new int[MOST_MEN];
        final int[] green = new int[MOST_MEN];
        final int[] hands = new int[MOST_MEN];
        final long[] manName = new long[MOST_MEN];
        final int[] spray = new int[MOST_POSTS];
        final int[] holds = new int[MOST_POSTS];
        final long[] postName = new long[MOST_POSTS];
        final int[] sea = new int[MOST_SEAS];
        final Law law = new Law();
        int men;
        int posts;
        int seas;
        int shade;
        int lemon;
        int harbour;

        Ship() {
            clear();
        }

        void clear() {
            men = 0;
            posts = 0;
            seas = 1;
            sea[0] = 1;
            shade = 3;
            lemon = 5;
            harbour = 2;
            law.beUsual();
        }

        void copyFrom(Ship other) {
            men = other.men;
            posts = other.posts;
            seas = other.seas;
            shade = other.shade;
            lemon = other.lemon;
            harbour = other.harbour;
            System.arraycopy(other.kind, 0, kind, 0, MOST_MEN);
            System.arraycopy(other.green, 0, green, 0, MOST_MEN);
            System.arraycopy(other.hands, 0, hands, 0, MOST_MEN);
            System.arraycopy(other.manName, 0, manName, 0, MOST_MEN);
            System.arraycopy(other.spray, 0, spray, 0, MOST_POSTS);
            System.arraycopy(other.holds, 0, holds, 0, MOST_POSTS);
            System.arraycopy(other.postName, 0, postName, 0, MOST_POSTS);
            System.arraycopy(other.sea, 0, sea, 0, MOST_SEAS);
            law.copyFrom(other.law);
        }

        boolean isMan(int man) {
            return man >= 0 && man < men;
        }

        boolean isPost(int post) {
            return post >= 0 && post < posts;
        }

        boolean isPair(int man, int other) {
            return isMan(man) && isMan(other) && man != other;
        }

        int manCalled(long name) {
            for (int man = 0; man < men; man++) {
                if (manName[man] == name) {
                    return man;
                }
            }
            return NONE;
        }

        int postCalled(long name) {
            for (int post = 0; post < posts; post++) {
                if (postName[post] == name) {
                    return post;
                }
            }
            return NONE;
        }

        int sweatOf(int man) {
            return kind[man] == BOY ? 2 * hands[man] : hands[man];
        }

        int seaAt(int watch) {
            return seas > 0 && watch >= 0 ? sea[watch % seas] : 1;
        }
    }

    /** Reads a SHIP into a draft, so that a FAULT leaves the ship as it is. */
    private static final class ShipReader {
        private static final String LINES = "man post sea shade lemon harbour greens";
        private static final int MAN = 0;
        private static final int POST = 1;
        private static final int SEA = 2;
        private static final int SHADE = 3;
        private static final int LEMON = 4;
        private static final int HARBOUR = 5;

        private final Tokens tokens;
        private long newName;
        private int told;
        final Ship draft = new Ship();

        ShipReader(Tokens tokens) {
            this.tokens = tokens;
        }

        int read() {
            draft.clear();
            told = 0;
            tokens.begin();
            boolean fine = true;
            for (int i = 0; fine && i < MOST_SIGNS && !tokens.isEnd(); i++) {
                fine = readLine();
            }
            return tokens.fault;
        }

        private boolean readLine() {
            int line = tokens.placeIn(LINES);
            switch (line) {
                case NONE: return tokens.refuse(Tokens.CANT_STAND);
                case MAN: return readMan() && tokens.takeSign(';');
                case POST: return readPost() && tokens.takeSign(';');
                default: return readOnce(line) && tokens.takeSign(';');
            }
        }

        private boolean readMan() {
            int man = draft.men;
            if (man >= MOST_MEN) {
                return tokens.refuse(Tokens.TOO_MANY);
            }
            tokens.advance();
            if (!takeNewName()) {
                return false;
            }
            draft.manName[man] = newName;
            draft.kind[man] = tokens.placeIn("plain cook boy gold");
            if (draft.kind[man] == NONE) {
                return tokens.refuse(Tokens.CANT_STAND);
            }
            tokens.advance();
            if (!tokens.takeWord("green") || !tokens.takeNumber(0, 60)) {
                return false;
            }
            draft.green[man] = tokens.taken;
            if (!tokens.takeWord("hands") || !tokens.takeNumber(0, 5)) {
                return false;
            }
            draft.hands[man] = tokens.taken;
            draft.men++;
            return true;
        }

        private boolean readPost() {
            int post = draft.posts;
            if (post >= MOST_POSTS) {
                return tokens.refuse(Tokens.TOO_MANY);
            }
            tokens.advance();
            if (!takeNewName()) {
                return false;
            }
            draft.postName[post] = newName;
            if (!tokens.takeWord("spray") || !tokens.takeNumber(0, 9)) {
                return false;
            }
            draft.spray[post] = tokens.taken;
            if (!tokens.takeWord("holds") || !tokens.takeNumber(1, 6)) {
                return false;
            }
            draft.holds[post] = tokens.taken;
            draft.posts++;
            return true;
        }

        private boolean takeNewName() {
            if (!tokens.isName()) {
                return tokens.refuse(Tokens.CANT_STAND);
            }
            newName = tokens.name;
            if (draft.manCalled(newName) != NONE || draft.postCalled(newName) != NONE) {
                return tokens.refuse(Tokens.TOLD_ALREADY);
            }
            tokens.advance();
            return true;
        }

        private boolean readOnce(int line) {
            if ((told >> line & 1) == 1) {
                return tokens.refuse(Tokens.TOLD_ALREADY);
            }
            told |= 1 << line;
            tokens.advance();
            switch (line) {
                case SEA: return readSea();
                case SHADE: return readShade();
                case LEMON: return readLemon();
                case HARBOUR: return readHarbour();
                default: return draft.law.read(tokens);
            }
        }

        private boolean readSea() {
            for (int i = 0; i < MOST_SEAS; i++) {
                if (i > 0 && !tokens.isNumber()) {
                    return true;
                }
                if (!tokens.takeNumber(0, 3)) {
                    return false;
                }
                draft.sea[i] = tokens.taken;
                draft.seas = i + 1;
            }
            if (!tokens.isNumber()) {
                return true;
            }
            return tokens.refuse(isWithin(tokens.number, 0, 3) ? Tokens.TOO_MANY : Tokens.NOT_AS_TOLD);
        }

        private boolean readShade() {
            if (!tokens.takeNumber(1, 9)) {
                return false;
            }
            draft.shade = tokens.taken;
            return true;
        }

        private boolean readLemon() {
            if (!tokens.takeNumber(1, 20)) {
                return false;
            }
            draft.lemon = tokens.taken;
            return true;
        }

        private boolean readHarbour() {
            if (!tokens.takeNumber(0, 9)) {
                return false;
            }
            draft.harbour = tokens.taken;
            return true;
        }
    }

    /** How it is on the ship: greens, places, lemons used, watches over. */
    private static final class Crew {
        private final Ship ship;
        private final int[] rise = new int[MOST_MEN];
        final int[] green = new int[MOST_MEN];
        final int[] place = new int[MOST_MEN];
        int sucked;
        int over;

        Crew(Ship ship) {
            this.ship = ship;
        }

        void boardAnew() {
            System.arraycopy(ship.green, 0, green, 0, MOST_MEN);
            Arrays.fill(place, NONE);
            sucked = 0;
            over = 0;
        }

        void copyFrom(Crew other) {
            System.arraycopy(other.green, 0, green, 0, MOST_MEN);
            System.arraycopy(other.place, 0, place, 0, MOST_MEN);
            sucked = other.sucked;
            over = other.over;
        }

        boolean canStand(int man, int post) {
            return ship.isMan(man) && ship.isPost(post) && place[man] != post
                    && Integer.bitCount(standingAt(post)) < ship.holds[post];
        }

        boolean standAt(int man, int post) {
            if (!canStand(man, post)) {
                return false;
            }
            place[man] = post;
            return true;
        }

        boolean canGoBelow(int man) {
            return ship.isMan(man) && place[man] != NONE;
        }

        boolean goBelow(int man) {
            if (!canGoBelow(man)) {
                return false;
            }
            place[man] = NONE;
            return true;
        }

        boolean hasSucked(int man) {
            return (sucked >> man & 1) == 1;
        }

        boolean canSuck(int man) {
            return ship.isMan(man) && !hasSucked(man);
        }

        boolean suckLemon(int man) {
            if (!canSuck(man)) {
                return false;
            }
            green[man] = Math.max(0, green[man] - ship.lemon);
            sucked |= 1 << man;
            return true;
        }

        void suckLemons(int set) {
            for (int man = 0; man < ship.men; man++) {
                if ((set >> man & 1) == 1) {
                    suckLemon(man);
                }
            }
        }

        void fallIn(int man) {
            int greenest = greenest();
            if (ship.isMan(man) && greenest != NONE) {
                green[man] = Math.min(MOST_GREEN, green[greenest] + ship.shade);
            }
        }

        int seaNow() {
            return ship.seaAt(over);
        }

        /** All rise by how it was ahead, so no green changes before every rise is known. */
        void passWatch(int sea) {
            for (int man = 0; man < ship.men; man++) {
                int above = ship.law.looksAbove ? rankOf(man) : 0;
                boolean rises = ship.kind[man] != Ship.GOLD;
                rise[man] = rises ? ship.law.riseFor(green[man], ship.sweatOf(man), wetOf(man, sea), above) : 0;
            }
            for (int man = 0; man < ship.men; man++) {
                green[man] = Math.min(MOST_GREEN, green[man] + rise[man]);
            }
            over++;
        }

        private int wetOf(int man, int sea) {
            boolean wet = ship.kind[man] != Ship.COOK && ship.isPost(place[man]);
            return wet ? ship.spray[place[man]] * sea : 0;
        }

        void enterHarbour() {
            for (int man = 0; man < ship.men; man++) {
                if (ship.kind[man] != Ship.GOLD) {
                    green[man] = Math.max(0, green[man] - ship.harbour);
                }
                place[man] = NONE;
            }
        }

        int rankOf(int man) {
            int greener = 0;
            for (int other = 0; other < ship.men; other++) {
                if (green[other] > green[man]) {
                    greener++;
                }
            }
            return greener;
        }

        int greenest() {
            int best = NONE;
            for (int man = 0; man < ship.men; man++) {
                if (best == NONE || green[man] > green[best]) {
                    best = man;
                }
            }
            return best;
        }

        int leader() {
            int best = greenest();
            for (int man = 0; man < ship.men; man++) {
                if (man != best && green[man] == green[best]) {
                    return NONE;
                }
            }
            return best;
        }

        int standingAt(int post) {
            int set = 0;
            for (int man = 0; man < ship.men; man++) {
                if (place[man] == post) {
                    set |= 1 << man;
                }
            }
            return set;
        }

        int allGreens() {
            int sum = 0;
            for (int man = 0; man < ship.men; man++) {
                sum += green[man];
            }
            return sum;
        }

        int quarrelling(int man) {
            int set = 0;
            for (int other = 0; other < ship.men; other++) {
                if (other != man && Math.abs(green[other] - green[man]) < ship.shade) {
                    set |= 1 << other;
                }
            }
            return set;
        }

        int saluted(int man) {
            int set = 0;
            for (int other = 0; other < ship.men; other++) {
                if (green[other] - green[man] >= 2 * ship.shade) {
                    set |= 1 << other;
                }
            }
            return set;
        }

        int equalPairs() {
            int pairs = 0;
            for (int man = 0; man < ship.men; man++) {
                for (int other = man + 1; other < ship.men; other++) {
                    if (green[man] == green[other]) {
                        pairs++;
                    }
                }
            }
            return pairs;
        }

        int differentShades() {
            int different = 0;
            for (int man = 0; man < ship.men; man++) {
                boolean fresh = true;
                for (int other = 0; other < man; other++) {
                    fresh = fresh && shadeOf(other) != shadeOf(man);
                }
                different += fresh ? 1 : 0;
            }
            return different;
        }

        private int shadeOf(int man) {
            return ship.shade > 0 ? green[man] / ship.shade : 0;
        }
    }

    /** A VOYAGE as told: each line is its verb, 8 times its man and 64 times its post. */
    private static final class Voyage {
        private static final String VERBS = "stand below suck fall watch dock";
        private static final int STAND = 0;
        private static final int BELOW = 1;
        private static final int SUCK = 2;
        private static final int FALL = 3;
        private static final int WATCH = 4;

        private final int[] line = new int[MOST_LINES];
        int lines;

        void copyFrom(Voyage other) {
            System.arraycopy(other.line, 0, line, 0, MOST_LINES);
            lines = other.lines;
        }

        int read(Tokens tokens, Ship ship) {
            lines = 0;
            tokens.begin();
            boolean fine = true;
            for (int i = 0; fine && i < MOST_SIGNS && !tokens.isEnd(); i++) {
                fine = readLine(tokens, ship);
            }
            return tokens.fault;
        }

        private boolean readLine(Tokens tokens, Ship ship) {
            int verb = tokens.placeIn(VERBS);
            if (verb == NONE) {
                return tokens.refuse(Tokens.CANT_STAND);
            }
            if (lines >= MOST_LINES) {
                return tokens.refuse(Tokens.TOO_MANY);
            }
            line[lines] = verb;
            tokens.advance();
            if (verb < WATCH && !takeKnown(tokens, ship.manCalled(tokens.name), 8)) {
                return false;
            }
            if (verb == STAND && !takeKnown(tokens, ship.postCalled(tokens.name), 64)) {
                return false;
            }
            lines++;
            return tokens.takeSign(';');
        }

        private boolean takeKnown(Tokens tokens, int number, int unit) {
            if (!tokens.isName()) {
                return tokens.refuse(Tokens.CANT_STAND);
            }
            if (number == NONE) {
                return tokens.refuse(Tokens.UNKNOWN);
            }
            line[lines] += unit * number;
            tokens.advance();
            return true;
        }

        int verdict(Crew crew, int what) {
            int barred = NONE;
            int turned = NONE;
            crew.boardAnew();
            for (int i = 0; i < lines; i++) {
                int leader = crew.leader();
                boolean done = follow(crew, line[i]);
                if (!done && barred == NONE) {
                    barred = i;
                }
                if (turned == NONE && crew.leader() != leader) {
                    turned = i;
                }
            }
            if (what == 0) {
                return barred;
            }
            return what == 1 ? turned : crew.greenest();
        }

        private static boolean follow(Crew crew, int order) {
            int man = order >> 3 & 7;
            switch (order & 7) {
                case STAND: return crew.standAt(man, order >> 6);
                case BELOW: return crew.goBelow(man);
                case SUCK: return crew.suckLemon(man);
                case FALL: crew.fallIn(man); return true;
                case WATCH: crew.passWatch(crew.seaNow()); return true;
                default: crew.enterHarbour(); return true;
            }
        }
    }

    /** What is SEEN: who is greener than whom behind how many watches, or is not. */
    private static final class Seen {
        private final int[] man = new int[MOST_SEEN];
        private final int[] other = new int[MOST_SEEN];
        private final int[] watches = new int[MOST_SEEN];
        private final int[] greener = new int[MOST_SEEN];
        int size;

        void copyFrom(Seen seen) {
            System.arraycopy(seen.man, 0, man, 0, MOST_SEEN);
            System.arraycopy(seen.other, 0, other, 0, MOST_SEEN);
            System.arraycopy(seen.watches, 0, watches, 0, MOST_SEEN);
            System.arraycopy(seen.greener, 0, greener, 0, MOST_SEEN);
            size = seen.size;
        }

        boolean add(int newMan, int newOther, int newWatches, boolean isGreener) {
            if (size >= MOST_SEEN) {
                return false;
            }
            man[size] = newMan;
            other[size] = newOther;
            watches[size] = newWatches;
            greener[size] = isGreener ? 1 : 0;
            size++;
            return true;
        }

        int lastWatch() {
            int last = 0;
            for (int i = 0; i < size; i++) {
                last = Math.max(last, watches[i]);
            }
            return last;
        }

        boolean agrees(Crew crew, int gone) {
            for (int i = 0; i < size; i++) {
                int is = crew.green[man[i]] > crew.green[other[i]] ? 1 : 0;
                if (watches[i] == gone && is != greener[i]) {
                    return false;
                }
            }
            return true;
        }
    }

    /** What a MARK holds, and what is so now. */
    private static final class Log {
        final Crew crew;
        final Voyage voyage = new Voyage();
        final Seen seen = new Seen();
        boolean laid;

        Log(Ship ship) {
            crew = new Crew(ship);
        }

        void copyFrom(Log other) {
            crew.copyFrom(other.crew);
            voyage.copyFrom(other.voyage);
            seen.copyFrom(other.seen);
        }
    }

    /** Who may have used a lemon, by what is SEEN. */
    private static final class Suspects {
        private final Ship ship;
        private final Log log;
        private final Crew trial;
        private final int[] says = new int[MOST_MEN * MOST_MEN];

        Suspects(Ship ship, Log log, Crew trial) {
            this.ship = ship;
            this.log = log;
            this.trial = trial;
        }

        private boolean fits(int set) {
            if ((set & log.crew.sucked) != 0) {
                return false;
            }
            trial.copyFrom(log.crew);
            trial.suckLemons(set);
            int last = log.seen.lastWatch();
            for (int gone = 0; gone <= last; gone++) {
                if (!log.seen.agrees(trial, gone)) {
                    return false;
                }
                trial.passWatch(trial.seaNow());
            }
            return true;
        }

        int fittingSets(int what) {
            int found = 0;
            int all = (1 << ship.men) - 1;
            int some = 0;
            for (int set = 0; set < 1 << ship.men; set++) {
                if (fits(set)) {
                    found++;
                    all &= set;
                    some |= set;
                }
            }
            if (what == 0) {
                return found;
            }
            if (found == 0) {
                return NONE;
            }
            return what == 1 ? all : some;
        }

        int bestPair(int watches) {
            Arrays.fill(says, 0);
            int found = 0;
            for (int set = 0; set < 1 << ship.men; set++) {
                if (fits(set)) {
                    found++;
                    hear(set, watches);
                }
            }
            int best = found;
            int pair = NONE;
            for (int man = 0; man < ship.men; man++) {
                for (int other = 0; other < ship.men; other++) {
                    int yes = says[man * MOST_MEN + other];
                    int greater = Math.max(yes, found - yes);
                    if (man != other && greater < best) {
                        best = greater;
                        pair = 8 * man + other;
                    }
                }
            }
            return pair;
        }

        private void hear(int set, int watches) {
            trial.copyFrom(log.crew);
            trial.suckLemons(set);
            for (int gone = 0; gone < watches; gone++) {
                trial.passWatch(trial.seaNow());
            }
            for (int man = 0; man < ship.men; man++) {
                for (int other = 0; other < ship.men; other++) {
                    if (trial.green[man] > trial.green[other]) {
                        says[man * MOST_MEN + other]++;
                    }
                }
            }
        }
    }

    /** What comes when watches, lemons, harbours or voyages by DRAWS follow now. */
    private static final class Forecast {
        private static final int MOST_HARBOURS = 50;
        private static final int MILLION = 1000000;
        private static final int ROUGH = 2;

        private final Ship ship;
        private final Crew now;
        private final Crew trial;
        private long seed;

        Forecast(Ship ship, Crew now, Crew trial) {
            this.ship = ship;
            this.now = now;
            this.trial = trial;
        }

        int untilLeading(int man) {
            trial.copyFrom(now);
            for (int gone = 0; gone <= LONGEST_WAIT; gone++) {
                if (trial.leader() == man) {
                    return gone;
                }
                trial.passWatch(trial.seaNow());
            }
            return NONE;
        }

        int untilGreener(int man, int other) {
            trial.copyFrom(now);
            for (int gone = 0; gone <= LONGEST_WAIT; gone++) {
                if (trial.green[man] > trial.green[other]) {
                    return gone;
                }
                trial.passWatch(trial.seaNow());
            }
            return NONE;
        }

        int soonerLeading(int man, int other) {
            int mans = untilLeading(man);
            int others = untilLeading(other);
            if (mans == others) {
                return NONE;
            }
            boolean isMan = others == NONE || (mans != NONE && mans < others);
            return isMan ? man : other;
        }

        int leaderTurns(int watches) {
            trial.copyFrom(now);
            int turns = 0;
            int leader = trial.leader();
            for (int gone = 0; gone < watches; gone++) {
                trial.passWatch(trial.seaNow());
                if (trial.leader() != leader) {
                    turns++;
                }
                leader = trial.leader();
            }
            return turns;
        }

        int fewestSucking(int man, int watches) {
            int fewest = NONE;
            for (int set = 0; set < 1 << ship.men; set++) {
                boolean free = (set & now.sucked) == 0;
                boolean fewer = fewest == NONE || Integer.bitCount(set) < Integer.bitCount(fewest);
                if (free && fewer && leadsAfter(man, watches, set)) {
                    fewest = set;
                }
            }
            return fewest;
        }

        private boolean leadsAfter(int man, int watches, int sucking) {
            trial.copyFrom(now);
            trial.suckLemons(sucking);
            for (int gone = 0; gone < watches; gone++) {
                trial.passWatch(trial.seaNow());
            }
            return trial.leader() == man;
        }

        int harboursUntilTurn(int man) {
            trial.copyFrom(now);
            boolean leads = trial.leader() == man;
            for (int gone = 1; gone <= MOST_HARBOURS; gone++) {
                trial.enterHarbour();
                if ((trial.leader() == man) != leads) {
                    return gone;
                }
            }
            return NONE;
        }

        /** At most six watches with odds of ten each: the millionths come out whole. */
        int leadingMillionths(int man, int watches, int odds) {
            int sum = 0;
            for (int seas = 0; seas < 1 << watches; seas++) {
                trial.copyFrom(now);
                int weight = MILLION;
                for (int gone = 0; gone < watches; gone++) {
                    boolean rough = (seas >> gone & 1) == 1;
                    trial.passWatch(rough ? ROUGH : 0);
                    weight = weight / 10 * (rough ? odds : 10 - odds);
                }
                if (trial.leader() == man) {
                    sum += weight;
                }
            }
            return sum;
        }

        int sail(int firstSeed, int watches, int what) {
            seed = firstSeed;
            trial.copyFrom(now);
            int turns = 0;
            int leader = trial.leader();
            for (int gone = 0; gone < watches; gone++) {
                if (ship.men > 0) {
                    order();
                }
                trial.passWatch(trial.seaNow());
                if (trial.leader() != leader) {
                    turns++;
                }
                leader = trial.leader();
            }
            if (what == 0) {
                return turns;
            }
            return what == 1 ? leader : trial.allGreens();
        }

        private void order() {
            int man = drawUnder(ship.men);
            int post = drawUnder(ship.posts + 1);
            if (post < ship.posts) {
                trial.standAt(man, post);
            } else {
                trial.goBelow(man);
            }
            int mishap = drawUnder(20);
            if (mishap == 0) {
                trial.enterHarbour();
            } else if (mishap == 1) {
                trial.fallIn(man);
            }
        }

        private int drawUnder(int limit) {
            seed = (seed * 1103515245L + 12345L) % 2147483648L;
            return limit > 0 ? (int) (seed / 65536L % limit) : 0;
        }
    }

    /** Where all should stand so that one is as high as can be. */
    private static final class Stations {
        private final Ship ship;
        private final Crew now;
        private final Crew trial;
        private final int[] row = new int[MOST_MEN];
        private final int[] free = new int[MOST_POSTS];
        private int target;
        private int watches;
        final int[] bestRow = new int[MOST_MEN];
        int bestRank;
        int bestSpray;

        Stations(Ship ship, Crew now, Crew trial) {
            this.ship = ship;
            this.now = now;
            this.trial = trial;
        }

        void find(int man, int forWatches) {
            target = man;
            watches = forWatches;
            bestRank = MOST_MEN;
            bestSpray = 0;
            System.arraycopy(ship.holds, 0, free, 0, MOST_POSTS);
            deal(0, 0);
        }

        /** Rows come in the order of the answer, so only a better one takes the place of the best. */
        private void deal(int man, int spray) {
            if (bestRank == 0 && spray >= bestSpray) {
                return;
            }
            if (man >= ship.men || man >= MOST_MEN) {
                weigh(spray);
                return;
            }
            for (int post = 0; post < ship.posts; post++) {
                if (free[post] > 0) {
                    free[post]--;
                    row[man] = post;
                    deal(man + 1, spray + ship.spray[post]);
                    free[post]++;
                }
            }
            row[man] = NONE;
            deal(man + 1, spray);
        }

        private void weigh(int spray) {
            trial.copyFrom(now);
            System.arraycopy(row, 0, trial.place, 0, MOST_MEN);
            for (int gone = 0; gone < watches; gone++) {
                trial.passWatch(trial.seaNow());
            }
            int rank = trial.rankOf(target);
            if (rank < bestRank || (rank == bestRank && spray < bestSpray)) {
                bestRank = rank;
                bestSpray = spray;
                System.arraycopy(row, 0, bestRow, 0, MOST_MEN);
            }
        }
    }
}
