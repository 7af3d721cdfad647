import java.lang.reflect.InvocationTargetException;
import java.lang.reflect.Method;
import java.lang.reflect.Modifier;
import java.util.ArrayList;
import java.util.Arrays;
import java.util.Comparator;
import java.util.List;
import java.util.NoSuchElementException;
import java.util.Random;

/** Drawn runs of calls, each answered by the class and by the Oracle. The draws have fixed seeds. */
public final class OracleTest {
    private static final int RUNS = Integer.getInteger("runs", 400);
    private static final String[] KINDS = {"plain", "plain", "cook", "boy", "gold"};
    private static final String[] NAMES = {"a", "bo", "cy", "dan", "eve", "now", "abcdefgh", "bow", "aft", "top", "x", "wet"};
    private static final String[] STRAY = {"man", "a", "now", "not", "and", "or", "(", ")", ";", "<", "=", "+", "-", "*", "0", "7",
        "61", "12345", "abcdefghi", "#", "A", "sea", "greens", "post", "watch", "stand", "12a", "a12", "shade 2;", ""};

    private static final int[] FAULTS = new int[6];

    private final Random random;
    private final Checks checks;
    private final GreenButtons navy = new GreenButtons();
    private final Oracle oracle = new Oracle();
    private final List<String> story = new ArrayList<>();
    private List<String> menNames = new ArrayList<>();
    private List<String> postNames = new ArrayList<>();
    private boolean heavy;

    private OracleTest(long seed, Checks checks) {
        random = new Random(seed);
        this.checks = checks;
    }

    public static void main(String[] args) throws Exception {
        Checks checks = new Checks();
        int first = Integer.getInteger("first", 0);
        for (int seed = first; seed < first + RUNS; seed++) {
            new OracleTest(seed, checks).run(seed);
        }
        for (int kind = 0; kind < 6; kind++) {
            checks.is("some text is read with a fault of kind " + kind, FAULTS[kind] > 0);
        }
        System.out.println("texts by their faults: " + Arrays.toString(FAULTS));
        checks.end();
    }

    private void run(int seed) throws Exception {
        Method[] face = Arrays.stream(GreenButtons.class.getDeclaredMethods())
            .filter(m -> Modifier.isPublic(m.getModifiers())).toArray(Method[]::new);
        Arrays.sort(face, Comparator.comparing(Method::getName));
        for (int i = 0; i < 120; i++) {
            if (i == 2 || random.nextInt(60) == 0) {
                tell(shipText(), "ship");
            } else if (random.nextInt(25) == 0) {
                tell(voyageText(), "voyage");
            } else {
                compare(face[random.nextInt(face.length)], seed);
            }
        }
    }

    private void tell(String text, String reader) throws Exception {
        String told = random.nextInt(3) == 0 ? spoilt(text) : text;
        byte[] signs = told.getBytes("ISO-8859-1");
        story.add(reader + " " + told);
        for (int from = 0; from < signs.length; from += 24) {
            long a = Checks.packed(signs, from);
            long b = Checks.packed(signs, from + 8);
            long c = Checks.packed(signs, from + 16);
            checks.same("feed", navy.feed(a, b, c), oracle.feed(a, b, c));
        }
        int want = reader.equals("ship") ? oracle.ship() : oracle.voyage();
        checks.same(reader + " " + told, reader.equals("ship") ? navy.ship() : navy.voyage(), want);
        FAULTS[want % 16]++;
        for (int what = 0; what < 13; what++) {
            checks.same("count " + what + " behind " + told, navy.count(what), oracle.count(what));
        }
    }

    private void compare(Method method, int seed) throws Exception {
        Object[] values = new Object[method.getParameterCount()];
        Class<?>[] types = method.getParameterTypes();
        for (int i = 0; i < values.length; i++) {
            values[i] = types[i] == long.class ? (Object) random.nextLong()
                : types[i] == boolean.class ? (Object) random.nextBoolean() : (Object) number(method.getName(), i);
        }
        if (method.getName().equals("ship") || method.getName().equals("stations") && heavy && random.nextInt(5) > 0) {
            return;
        }
        Object want = answer(oracle, Oracle.class.getDeclaredMethod(method.getName(), types), values);
        Object got = answer(navy, method, values);
        String call = method.getName() + Arrays.toString(values);
        story.add(call);
        checks.same("seed " + seed + ": " + (got.equals(want) ? call : story + " got " + got + " want " + want + ":"),
            got.equals(want) ? 1 : 0, 1);
    }

    private static Object answer(Object who, Method method, Object[] values) throws Exception {
        try {
            return method.invoke(who, values);
        } catch (InvocationTargetException thrown) {
            if (thrown.getCause() instanceof NoSuchElementException && method.getName().equals("rests")) {
                return "none";
            }
            throw new IllegalStateException(method.getName() + Arrays.toString(values), thrown.getCause());
        }
    }

    private Integer number(String name, int i) {
        if (random.nextInt(30) == 0) {
            int[] odd = {Integer.MIN_VALUE, Integer.MAX_VALUE, -3, -2, -1, 6, 7, 9, 10, 12, 13, 20, 21, 60, 61, 99, 100, 9999, 10000};
            return odd[random.nextInt(odd.length)];
        }
        boolean isWatches = i == 1 && List.of("stations", "lemons", "chance").contains(name) || i == 2 && name.equals("see");
        if (isWatches) {
            return name.equals("stations") && heavy ? random.nextInt(3) : random.nextInt(name.equals("see") ? 10 : 7);
        }
        if (name.equals("changes") || name.equals("ask") || name.equals("voyages") && i == 1) {
            return random.nextInt(25);
        }
        if (name.equals("voyages") && i == 0) {
            return random.nextInt(10000);
        }
        if (name.equals("rests") && i < 3 || name.equals("chance") && i == 2) {
            return random.nextInt(10);
        }
        return name.equals("count") ? random.nextInt(14) : random.nextInt(8) - 1;
    }

    private String spoilt(String text) {
        StringBuilder spoilt = new StringBuilder(text);
        for (int i = random.nextInt(2); i >= 0; i--) {
            if (random.nextBoolean()) {
                spoilSigns(spoilt);
            } else {
                spoilWord(spoilt);
            }
        }
        return spoilt.toString();
    }

    private void spoilSigns(StringBuilder text) {
        int at = random.nextInt(text.length() + 1);
        int cut = Math.min(text.length(), at + random.nextInt(3));
        String stray = STRAY[random.nextInt(STRAY.length)];
        text.replace(at, cut, random.nextBoolean() ? stray : " " + stray + " ");
    }

    /** Another word of the text, or another number, comes in the place of one. */
    private void spoilWord(StringBuilder text) {
        String[] words = text.toString().split("(?<![a-z])(?=[a-z])|(?<=[a-z])(?![a-z])|(?<![0-9])(?=[0-9])|(?<=[0-9])(?![0-9])");
        int at = random.nextInt(words.length);
        for (int i = 0; i < 9 && words[at].matches("[^a-z0-9]*"); i++) {
            at = random.nextInt(words.length);
        }
        boolean isNumber = words[at].matches("[0-9]+");
        words[at] = isNumber ? String.valueOf(random.nextInt(65)) : words[random.nextInt(words.length)];
        text.replace(0, text.length(), String.join("", words));
    }

    private String shipText() {
        List<String> names = new ArrayList<>(Arrays.asList(NAMES));
        java.util.Collections.shuffle(names, random);
        int men = random.nextInt(random.nextInt(8) == 0 ? 8 : 7);
        int posts = random.nextInt(random.nextInt(8) == 0 ? 6 : men > 4 ? 3 : 5);
        int span = 3 + random.nextInt(58);
        heavy = men > 3;
        menNames = names.subList(0, men);
        postNames = names.subList(men, men + Math.min(posts, 4));
        List<String> told = new ArrayList<>();
        for (String name : menNames) {
            told.add("man " + name + " " + KINDS[random.nextInt(5)] + " green " + random.nextInt(span) + " hands " + random.nextInt(6));
        }
        for (String name : postNames) {
            told.add("post " + name + " spray " + random.nextInt(6) + " holds " + (1 + random.nextInt(3)));
        }
        if (random.nextInt(4) > 0) {
            StringBuilder sea = new StringBuilder("sea");
            for (int i = random.nextInt(random.nextInt(8) == 0 ? 14 : 5); i >= 0; i--) {
                sea.append(' ').append(random.nextInt(4));
            }
            told.add(sea.toString());
        }
        maybe(told, "shade " + (1 + random.nextInt(9)));
        maybe(told, "lemon " + (1 + random.nextInt(20)));
        maybe(told, "harbour " + random.nextInt(10));
        maybe(told, "greens " + choice(4));
        java.util.Collections.shuffle(told, random);
        List<String> men2 = new ArrayList<>();
        List<String> posts2 = new ArrayList<>();
        told.stream().filter(t -> t.startsWith("man ")).forEach(t -> men2.add(t.split(" ")[1]));
        told.stream().filter(t -> t.startsWith("post ")).forEach(t -> posts2.add(t.split(" ")[1]));
        menNames = men2;
        postNames = posts2;
        return String.join(random.nextBoolean() ? ";" : " ;\n", told) + (told.isEmpty() ? "" : ";");
    }

    private void maybe(List<String> told, String line) {
        if (random.nextInt(3) > 0) {
            told.add(line);
        }
    }

    private String choice(int depth) {
        String[] joints = {"+", "-", "*", "<", "=", " and ", " or ", "+", "*", "-"};
        StringBuilder text = new StringBuilder(part(depth));
        for (int i = random.nextInt(4); i > 0; i--) {
            text.append(joints[random.nextInt(joints.length)]).append(part(depth));
        }
        return text.toString();
    }

    private String part(int depth) {
        String[] facts = {"now", "sweat", "wet", "above", "wet", "sweat"};
        int what = random.nextInt(10);
        if (what < 2 && depth > -2) {
            return "(" + choice(depth - 1) + ")";
        }
        if (what == 2 && depth > -2) {
            return "not " + part(depth - 1);
        }
        return what < 5 ? String.valueOf(random.nextInt(what == 3 ? 10000 : 8)) : facts[random.nextInt(facts.length)];
    }

    private String voyageText() {
        StringBuilder text = new StringBuilder();
        int lines = random.nextInt(random.nextInt(6) == 0 ? 44 : 16);
        for (int i = 0; i < lines; i++) {
            int verb = random.nextInt(7);
            if (verb < 4 && !menNames.isEmpty()) {
                String man = menNames.get(random.nextInt(menNames.size()));
                boolean stands = verb == 0 && !postNames.isEmpty();
                text.append(stands ? "stand " : verb == 1 ? "suck " : verb == 2 ? "fall " : "below ").append(man);
                text.append(stands ? " " + postNames.get(random.nextInt(postNames.size())) : "");
            } else {
                text.append(verb == 6 ? "dock" : "watch");
            }
            text.append(";");
        }
        return text.toString();
    }
}
