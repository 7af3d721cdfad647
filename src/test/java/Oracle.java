import java.util.ArrayDeque;
import java.util.ArrayList;
import java.util.Arrays;
import java.util.Deque;
import java.util.HashMap;
import java.util.HashSet;
import java.util.List;
import java.util.Map;
import java.util.NoSuchElementException;
import java.util.Set;
import java.util.TreeMap;
import java.util.function.IntUnaryOperator;
import java.util.regex.Matcher;
import java.util.regex.Pattern;

/** The document once more, as plainly as the Java library lets it be told; slow, and sharing nothing with the class. */
final class Oracle {
    private static final Pattern TOKEN = Pattern.compile("[a-z]+|[0-9]+|[()<=+*;-]|[^\\n ]");
    private static final Set<String> TAKEN = new HashSet<>(Arrays.asList(("man green hands post spray holds sea shade "
        + "lemon harbour greens stand below suck fall watch dock plain cook boy gold not and or").split(" ")));
    private static final List<String> KINDS = Arrays.asList("plain", "cook", "boy", "gold");
    private static final Set<String> FACTS = new HashSet<>(Arrays.asList("now", "sweat", "wet", "above"));

    private static final class Fault extends RuntimeException {
        private static final long serialVersionUID = 1L;
        final int code;

        Fault(int kind, Token token) {
            code = kind + 16 * token.at;
        }
    }

    private static final class Token {
        final String text;
        final int at;

        Token(String text, int at) {
            this.text = text;
            this.at = at;
        }

        boolean isWord() {
            return text.matches("[a-z]{1,8}");
        }

        boolean isNumber() {
            return text.matches("[0-9]{1,4}");
        }

        int value() {
            return Integer.parseInt(text);
        }
    }

    private static final class Told {
        final List<String> menNames = new ArrayList<>();
        final List<int[]> men = new ArrayList<>();
        final List<String> postNames = new ArrayList<>();
        final List<int[]> posts = new ArrayList<>();
        List<Integer> sea = List.of(1);
        final Map<String, Integer> sizes = new HashMap<>(Map.of("shade", 3, "lemon", 5, "harbour", 2));
        List<Token> law = tokensOf("wet+sweat;");
    }

    private static final class Now {
        int[] green;
        int[] at;
        boolean[] sucked;
        int watch;

        Now copy() {
            Now twin = new Now();
            twin.green = green.clone();
            twin.at = at.clone();
            twin.sucked = sucked.clone();
            twin.watch = watch;
            return twin;
        }
    }

    private static final class Held {
        final Now now;
        final List<String[]> lines;
        final List<int[]> seen;

        Held(Now now, List<String[]> lines, List<int[]> seen) {
            this.now = now.copy();
            this.lines = lines;
            this.seen = new ArrayList<>(seen);
        }
    }

    private String tape = "";
    private Told told = new Told();
    private Now now = fresh();
    private List<String[]> lines = new ArrayList<>();
    private List<int[]> seen = new ArrayList<>();
    private final Deque<Now> past = new ArrayDeque<>();
    private final Map<Integer, Held> held = new TreeMap<>();
    private List<Token> reading;

    private Now fresh() {
        Now start = new Now();
        start.green = told.men.stream().mapToInt(m -> m[1]).toArray();
        start.at = new int[told.men.size()];
        Arrays.fill(start.at, -1);
        start.sucked = new boolean[told.men.size()];
        return start;
    }

    private static List<Token> tokensOf(String text) {
        List<Token> all = new ArrayList<>();
        Matcher matcher = TOKEN.matcher(text);
        while (matcher.find()) {
            all.add(new Token(matcher.group(), matcher.start()));
        }
        all.add(new Token("", text.length()));
        return all;
    }

    // reading

    private Token look() {
        return reading.get(0);
    }

    private Token next() {
        return reading.size() > 1 ? reading.remove(0) : reading.get(0);
    }

    private void must(String text) {
        if (!look().text.equals(text)) {
            throw new Fault(1, look());
        }
        next();
    }

    private int within(int least, int most) {
        Token token = look();
        if (!token.isNumber()) {
            throw new Fault(1, token);
        }
        if (token.value() < least || token.value() > most) {
            throw new Fault(4, token);
        }
        return next().value();
    }

    private Token word() {
        if (!look().isWord() || TAKEN.contains(look().text)) {
            throw new Fault(1, look());
        }
        return look();
    }

    private String newName(Told draft) {
        Token token = word();
        if (draft.menNames.contains(token.text) || draft.postNames.contains(token.text)) {
            throw new Fault(3, token);
        }
        return next().text;
    }

    private Told readShip() {
        Told draft = new Told();
        Set<String> once = new HashSet<>();
        while (!look().text.isEmpty()) {
            Token head = look();
            if (List.of("sea", "shade", "lemon", "harbour", "greens").contains(head.text)) {
                if (!once.add(head.text)) {
                    throw new Fault(3, head);
                }
                next();
                readOnce(draft, head.text);
            } else if (head.text.equals("man")) {
                if (draft.men.size() == 6) {
                    throw new Fault(5, head);
                }
                next();
                String name = newName(draft);
                int kind = KINDS.indexOf(look().text);
                if (kind < 0) {
                    throw new Fault(1, look());
                }
                next();
                must("green");
                int green = within(0, 60);
                must("hands");
                draft.men.add(new int[] {kind, green, within(0, 5)});
                draft.menNames.add(name);
            } else if (head.text.equals("post")) {
                if (draft.posts.size() == 4) {
                    throw new Fault(5, head);
                }
                next();
                String name = newName(draft);
                must("spray");
                int spray = within(0, 9);
                must("holds");
                draft.posts.add(new int[] {spray, within(1, 6)});
                draft.postNames.add(name);
            } else {
                throw new Fault(1, head);
            }
            must(";");
        }
        return draft;
    }

    private void readOnce(Told draft, String head) {
        switch (head) {
            case "sea":
                draft.sea = new ArrayList<>();
                do {
                    Token token = look();
                    int sea = within(0, 3);
                    if (draft.sea.size() == 12) {
                        throw new Fault(5, token);
                    }
                    draft.sea.add(sea);
                } while (look().isNumber());
                break;
            case "shade":
                draft.sizes.put(head, within(1, 9));
                break;
            case "lemon":
                draft.sizes.put(head, within(1, 20));
                break;
            case "harbour":
                draft.sizes.put(head, within(0, 9));
                break;
            default:
                List<Token> from = new ArrayList<>(reading);
                choice(0, null);
                draft.law = from;
        }
    }

    private List<String[]> readVoyage() {
        List<String[]> draft = new ArrayList<>();
        while (!look().text.isEmpty()) {
            Token head = look();
            int names = List.of("watch", "dock").contains(head.text) ? 0
                : List.of("below", "suck", "fall").contains(head.text) ? 1 : head.text.equals("stand") ? 2 : -1;
            if (names < 0) {
                throw new Fault(1, head);
            }
            if (draft.size() == 40) {
                throw new Fault(5, head);
            }
            String[] line = {next().text, "", ""};
            for (int i = 1; i <= names; i++) {
                Token token = word();
                if (!(i == 1 ? told.menNames : told.postNames).contains(token.text)) {
                    throw new Fault(2, token);
                }
                line[i] = next().text;
            }
            must(";");
            draft.add(line);
        }
        return draft;
    }

    // E, reckoned while it is read; facts are null when it is only read

    private int choice(int within, Map<String, Integer> facts) {
        int value = test(within, facts);
        while (look().text.equals("and") || look().text.equals("or")) {
            boolean and = next().text.equals("and");
            int right = test(within, facts);
            value = (and ? value != 0 && right != 0 : value != 0 || right != 0) ? 1 : 0;
        }
        return value;
    }

    private int test(int within, Map<String, Integer> facts) {
        int value = sum(within, facts);
        if (look().text.equals("<")) {
            next();
            return value < sum(within, facts) ? 1 : 0;
        }
        if (look().text.equals("=")) {
            next();
            return value == sum(within, facts) ? 1 : 0;
        }
        return value;
    }

    private int sum(int within, Map<String, Integer> facts) {
        int value = product(within, facts);
        while (look().text.equals("+") || look().text.equals("-")) {
            value += next().text.equals("+") ? product(within, facts) : -product(within, facts);
        }
        return value;
    }

    private int product(int within, Map<String, Integer> facts) {
        int value = part(within, facts);
        while (look().text.equals("*")) {
            next();
            value *= part(within, facts);
        }
        return value;
    }

    private int part(int within, Map<String, Integer> facts) {
        Token token = look();
        boolean known = token.isNumber() || FACTS.contains(token.text);
        if (!known && !token.text.equals("not") && !token.text.equals("(")) {
            throw new Fault(1, token);
        }
        if (within == 5) {
            throw new Fault(5, token);
        }
        next();
        if (token.isNumber()) {
            return token.value();
        }
        if (known) {
            return facts == null ? 0 : facts.get(token.text);
        }
        if (token.text.equals("not")) {
            return part(within + 1, facts) == 0 ? 1 : 0;
        }
        int value = choice(within + 1, facts);
        must(")");
        return value;
    }

    // how it goes

    private int men() {
        return told.men.size();
    }

    private int kind(int man) {
        return told.men.get(man)[0];
    }

    private static int rank(Now at, int man) {
        return (int) Arrays.stream(at.green).filter(g -> g > at.green[man]).count();
    }

    private static int leader(Now at) {
        for (int man = 0; man < at.green.length; man++) {
            int own = at.green[man];
            if (Arrays.stream(at.green).filter(g -> g >= own).count() == 1) {
                return man;
            }
        }
        return -1;
    }

    private boolean stands(Now at, int man, int post) {
        if (!isMan(man) || post < 0 || post >= told.posts.size() || at.at[man] == post) {
            return false;
        }
        if (Arrays.stream(at.at).filter(p -> p == post).count() >= told.posts.get(post)[1]) {
            return false;
        }
        at.at[man] = post;
        return true;
    }

    private boolean goes(Now at, int man) {
        if (!isMan(man) || at.at[man] < 0) {
            return false;
        }
        at.at[man] = -1;
        return true;
    }

    private boolean sucks(Now at, int man) {
        if (!isMan(man) || at.sucked[man]) {
            return false;
        }
        at.sucked[man] = true;
        at.green[man] = Math.max(0, at.green[man] - told.sizes.get("lemon"));
        return true;
    }

    private void falls(Now at, int man) {
        at.green[man] = Math.min(99, Arrays.stream(at.green).max().getAsInt() + told.sizes.get("shade"));
    }

    private int sea(Now at) {
        return told.sea.get(at.watch % told.sea.size());
    }

    private void passes(Now at, int sea) {
        int[] greens = at.green.clone();
        for (int man = 0; man < men(); man++) {
            if (kind(man) != 3) {
                boolean dry = kind(man) == 1 || at.at[man] < 0;
                int wet = dry ? 0 : told.posts.get(at.at[man])[0] * sea;
                int sweat = told.men.get(man)[2] * (kind(man) == 2 ? 2 : 1);
                reading = new ArrayList<>(told.law);
                int value = choice(0, Map.of("now", at.green[man], "sweat", sweat, "wet", wet, "above", rank(at, man)));
                greens[man] = Math.min(99, at.green[man] + Math.min(9, Math.max(0, value)));
            }
        }
        at.green = greens;
        at.watch++;
    }

    private void passes(Now at) {
        passes(at, sea(at));
    }

    private Now later(Now from, int watches) {
        Now at = from.copy();
        for (int i = 0; i < watches; i++) {
            passes(at);
        }
        return at;
    }

    private void docks(Now at) {
        for (int man = 0; man < men(); man++) {
            at.green[man] = kind(man) == 3 ? at.green[man] : Math.max(0, at.green[man] - told.sizes.get("harbour"));
            at.at[man] = -1;
        }
    }

    private boolean isMan(int man) {
        return man >= 0 && man < men();
    }

    private boolean isPair(int man, int other) {
        return isMan(man) && isMan(other) && man != other;
    }

    private void keep() {
        past.addLast(now.copy());
        if (past.size() > 16) {
            past.removeFirst();
        }
    }

    private Now sucked(int set) {
        Now at = now.copy();
        for (int man = 0; man < men(); man++) {
            if ((set & 1 << man) != 0 && !sucks(at, man)) {
                return null;
            }
        }
        return at;
    }

    private static int firstOf(int from, int to, IntUnaryOperator isSo) {
        for (int i = from; i <= to; i++) {
            if (isSo.applyAsInt(i) != 0) {
                return i;
            }
        }
        return -1;
    }

    private int bits(IntUnaryOperator isSo) {
        int set = 0;
        for (int man = 0; man < men(); man++) {
            set += isSo.applyAsInt(man) != 0 ? 1 << man : 0;
        }
        return set;
    }

    // the face

    int feed(long a, long b, long c) {
        StringBuilder more = new StringBuilder(tape);
        for (long eight : new long[] {a, b, c}) {
            for (byte sign : java.nio.ByteBuffer.allocate(8).putLong(eight).array()) {
                if ((sign == 10 || sign >= 32 && sign <= 126) && more.length() < 1000) {
                    more.append((char) sign);
                }
            }
        }
        tape = more.toString();
        return tape.length();
    }

    int ship() {
        reading = tokensOf(tape);
        tape = "";
        try {
            told = readShip();
        } catch (Fault fault) {
            return fault.code;
        }
        now = fresh();
        lines = new ArrayList<>();
        seen = new ArrayList<>();
        past.clear();
        held.clear();
        return 0;
    }

    int voyage() {
        reading = tokensOf(tape);
        tape = "";
        try {
            lines = readVoyage();
            return 0;
        } catch (Fault fault) {
            return fault.code;
        }
    }

    int man(int man, int what) {
        if (!isMan(man) || what < 0 || what > 5) {
            return -2;
        }
        int[] answers = {kind(man), told.men.get(man)[2], now.green[man], now.at[man], now.sucked[man] ? 1 : 0,
            rank(now, man)};
        return answers[what];
    }

    int post(int post, int what) {
        if (post < 0 || post >= told.posts.size() || what < 0 || what > 2) {
            return -1;
        }
        return what < 2 ? told.posts.get(post)[what] : bits(m -> now.at[m] == post ? 1 : 0);
    }

    boolean stand(int man, int post) {
        Now before = now.copy();
        if (!stands(now, man, post)) {
            return false;
        }
        remember(before);
        return true;
    }

    private void remember(Now before) {
        Now after = now;
        now = before;
        keep();
        now = after;
    }

    boolean below(int man) {
        Now before = now.copy();
        if (!goes(now, man)) {
            return false;
        }
        remember(before);
        return true;
    }

    int suck(int man) {
        Now before = now.copy();
        if (!sucks(now, man)) {
            return -1;
        }
        remember(before);
        return now.green[man];
    }

    int fall(int man) {
        if (!isMan(man)) {
            return -1;
        }
        keep();
        falls(now, man);
        return now.green[man];
    }

    int watch() {
        keep();
        passes(now);
        return now.watch;
    }

    int dock() {
        keep();
        docks(now);
        return Arrays.stream(now.green).sum();
    }

    boolean undo() {
        if (past.isEmpty()) {
            return false;
        }
        now = past.removeLast();
        return true;
    }

    int judged(int what) {
        Now at = fresh();
        int[] answers = {-1, -1, -1};
        for (int i = 0; i < lines.size(); i++) {
            String[] line = lines.get(i);
            int captain = leader(at);
            int man = told.menNames.indexOf(line[1]);
            boolean can = true;
            switch (line[0]) {
                case "stand" -> can = stands(at, man, told.postNames.indexOf(line[2]));
                case "below" -> can = goes(at, man);
                case "suck" -> can = sucks(at, man);
                case "fall" -> falls(at, man);
                case "watch" -> passes(at);
                default -> docks(at);
            }
            answers[0] = answers[0] < 0 && !can ? i : answers[0];
            answers[1] = answers[1] < 0 && captain != leader(at) ? i : answers[1];
        }
        answers[2] = firstOf(0, men() - 1, m -> rank(at, m) == 0 ? 1 : 0);
        return what < 0 || what > 2 ? -2 : answers[what];
    }

    int captain() {
        return leader(now);
    }

    int argues(int man) {
        int shade = told.sizes.get("shade");
        return !isMan(man) ? -1
            : bits(m -> m != man && now.green[m] > now.green[man] - shade && now.green[m] < now.green[man] + shade ? 1 : 0);
    }

    int salutes(int man) {
        int shade = told.sizes.get("shade");
        return isMan(man) ? bits(m -> now.green[m] >= now.green[man] + shade + shade ? 1 : 0) : -1;
    }

    int when(int man) {
        return isMan(man) ? firstOf(0, 60, w -> leader(later(now, w)) == man ? 1 : 0) : -1;
    }

    int passes(int man, int other) {
        if (!isPair(man, other)) {
            return -1;
        }
        return firstOf(0, 60, w -> {
            int[] greens = later(now, w).green;
            return greens[man] > greens[other] ? 1 : 0;
        });
    }

    int changes(int watches) {
        if (watches < 1 || watches > 60) {
            return -1;
        }
        int often = 0;
        for (int w = 1; w <= watches; w++) {
            often += leader(later(now, w)) != leader(later(now, w - 1)) ? 1 : 0;
        }
        return often;
    }

    int stations(int man, int watches, int what) {
        if (!isMan(man) || watches < 1 || watches > 12 || what < -2 || what >= men()) {
            return -3;
        }
        int base = told.posts.size() + 1;
        int[] best = null;
        for (int code = 0; code < Math.pow(base, men()); code++) {
            int[] row = new int[men()];
            int rest = code;
            for (int m = men() - 1; m >= 0; m--) {
                row[m] = rest % base;
                rest /= base;
            }
            int spray = 0;
            boolean held = true;
            for (int p = 0; p < base - 1; p++) {
                int post = p;
                int there = (int) Arrays.stream(row).filter(r -> r == post).count();
                held &= there <= told.posts.get(p)[1];
                spray += there * told.posts.get(p)[0];
            }
            if (held) {
                Now at = now.copy();
                at.at = Arrays.stream(row).map(r -> r == base - 1 ? -1 : r).toArray();
                int rank = rank(later(at, watches), man);
                if (best == null || rank * 1000 + spray < best[0] * 1000 + best[1]) {
                    best = new int[men() + 2];
                    best[0] = rank;
                    best[1] = spray;
                    System.arraycopy(at.at, 0, best, 2, men());
                }
            }
        }
        return best[what + 2];
    }

    int lemons(int man, int watches) {
        if (!isMan(man) || watches < 1 || watches > 12) {
            return -1;
        }
        for (int size = 0; size <= men(); size++) {
            for (int set = 0; set < 1 << men(); set++) {
                Now at = Integer.bitCount(set) == size ? sucked(set) : null;
                if (at != null && leader(later(at, watches)) == man) {
                    return set;
                }
            }
        }
        return -1;
    }

    int docks(int man) {
        if (!isMan(man)) {
            return -1;
        }
        boolean is = leader(now) == man;
        Now at = now.copy();
        return firstOf(1, 50, i -> {
            docks(at);
            return (leader(at) == man) == is ? 0 : 1;
        });
    }

    int twins() {
        int pairs = 0;
        for (int g : now.green) {
            pairs += (int) Arrays.stream(now.green).filter(h -> h == g).count() - 1;
        }
        return pairs / 2;
    }

    int shades() {
        return (int) Arrays.stream(now.green).map(g -> g / told.sizes.get("shade")).distinct().count();
    }

    int first(int man, int other) {
        if (!isPair(man, other)) {
            return -1;
        }
        int w = firstOf(0, 60, i -> List.of(man, other).contains(leader(later(now, i))) ? 1 : 0);
        return w < 0 ? -1 : leader(later(now, w));
    }

    boolean see(int man, int other, int watches, boolean greener) {
        if (!isPair(man, other) || watches < 0 || watches > 20 || seen.size() == 8) {
            return false;
        }
        seen.add(new int[] {man, other, watches, greener ? 1 : 0});
        return true;
    }

    private List<Integer> fitting() {
        List<Integer> sets = new ArrayList<>();
        for (int set = 0; set < 1 << men(); set++) {
            Now at = sucked(set);
            boolean fits = at != null;
            for (int i = 0; fits && i < seen.size(); i++) {
                int[] one = seen.get(i);
                int[] greens = later(at, one[2]).green;
                fits = greens[one[0]] > greens[one[1]] == (one[3] == 1);
            }
            if (fits) {
                sets.add(set);
            }
        }
        return sets;
    }

    int sets(int what) {
        List<Integer> sets = fitting();
        if (what == 0) {
            return sets.size();
        }
        if (what < 0 || what > 2 || sets.isEmpty()) {
            return -1;
        }
        return what == 1 ? sets.stream().reduce(-1, (a, b) -> a & b) : sets.stream().reduce(0, (a, b) -> a | b);
    }

    int ask(int watches) {
        if (watches < 0 || watches > 20) {
            return -1;
        }
        List<int[]> ends = new ArrayList<>();
        for (int set : fitting()) {
            ends.add(later(sucked(set), watches).green);
        }
        int least = ends.size();
        int pair = -1;
        for (int i = 0; i < men(); i++) {
            for (int j = 0; j < men(); j++) {
                int one = i;
                int other = j;
                int yes = (int) ends.stream().filter(g -> g[one] > g[other]).count();
                if (i != j && Math.max(yes, ends.size() - yes) < least) {
                    least = Math.max(yes, ends.size() - yes);
                    pair = 8 * i + j;
                }
            }
        }
        return pair;
    }

    int chance(int man, int watches, int odds) {
        if (!isMan(man) || watches < 1 || watches > 6 || odds < 0 || odds > 10) {
            return -1;
        }
        long ways = chances(now, man, watches, odds);
        return (int) (ways * 1000000 / Math.round(Math.pow(10, watches)));
    }

    private long chances(Now from, int man, int watches, int odds) {
        if (watches == 0) {
            return leader(from) == man ? 1 : 0;
        }
        Now calm = from.copy();
        passes(calm, 0);
        Now rough = from.copy();
        passes(rough, 2);
        return (10 - odds) * chances(calm, man, watches - 1, odds) + odds * chances(rough, man, watches - 1, odds);
    }

    int rests(int both, int gets, int loses, int what) {
        if (Math.min(both, Math.min(gets, loses)) < 0 || Math.max(both, Math.max(gets, loses)) > 9 || what < -1) {
            throw new NoSuchElementException();
        }
        int[][] pay = {{0, -loses}, {gets, -both}};
        List<Integer> found = new ArrayList<>();
        for (int i = 0; i < 4; i++) {
            int a = i / 2;
            int b = i % 2;
            if (pay[1 - a][b] <= pay[a][b] && pay[1 - b][a] <= pay[b][a]) {
                found.add(i);
            }
        }
        if (what >= found.size()) {
            throw new NoSuchElementException();
        }
        return what == -1 ? found.size() : found.get(what);
    }

    private java.math.BigInteger drawn;

    private int draw(int below) {
        drawn = drawn.multiply(java.math.BigInteger.valueOf(1103515245)).add(java.math.BigInteger.valueOf(12345))
            .mod(java.math.BigInteger.TWO.pow(31));
        return drawn.shiftRight(16).intValue() % below;
    }

    int voyages(int seed, int watches, int what) {
        if (seed < 0 || seed > 9999 || watches < 1 || watches > 99 || what < 0 || what > 2) {
            return -2;
        }
        drawn = java.math.BigInteger.valueOf(seed);
        Now at = now.copy();
        int often = 0;
        for (int i = 0; i < watches; i++) {
            int captain = i == 0 ? leader(now) : leader(at);
            if (men() > 0) {
                int man = draw(men());
                int post = draw(told.posts.size() + 1);
                if (post == told.posts.size()) {
                    goes(at, man);
                } else {
                    stands(at, man, post);
                }
                int luck = draw(20);
                if (luck == 0) {
                    docks(at);
                }
                if (luck == 1) {
                    falls(at, man);
                }
            }
            passes(at);
            often += leader(at) == captain ? 0 : 1;
        }
        return new int[] {often, leader(at), Arrays.stream(at.green).sum()}[what];
    }

    boolean mark(int mark, boolean back) {
        if (mark < 0 || mark > 3 || back && !held.containsKey(mark)) {
            return false;
        }
        if (!back) {
            held.put(mark, new Held(now, lines, seen));
            return true;
        }
        Held there = held.get(mark);
        now = there.now.copy();
        lines = there.lines;
        seen = new ArrayList<>(there.seen);
        past.clear();
        return true;
    }

    int count(int what) {
        if (what < 0 || what > 12) {
            return -1;
        }
        int[] answers = {men(), told.posts.size(), told.sizes.get("shade"), told.sizes.get("lemon"),
            told.sizes.get("harbour"), now.watch, sea(now), Arrays.stream(now.green).sum(),
            bits(m -> now.at[m] < 0 ? 1 : 0), lines.size(), seen.size(), past.size(), tape.length()};
        return answers[what];
    }
}
