import java.lang.reflect.InvocationTargetException;
import java.lang.reflect.Method;
import java.lang.reflect.Modifier;
import java.util.ArrayList;
import java.util.Arrays;
import java.util.Comparator;
import java.util.List;
import java.util.NoSuchElementException;

/** Every call of the face with every mix of numbers at and next to the document's bounds, answered as by the Oracle, on three ships. */
public final class SweepTest {
    private static final int[] EDGES = {Integer.MIN_VALUE, -3, -2, -1, 0, 1, 2, 3, 4, 5, 6, 7, 8, 9, 10, 11, 12, 13, 20, 21, 31, 32, 50, 51,
        60, 61, 99, 100, 9999, 10000, Integer.MAX_VALUE};
    /** The document promises nothing beyond 512 calls, those that tell the ship among them. */
    private static final int CALLS = 470;
    private static final String SMALL = Checks.man("a", "plain", 10, 1) + Checks.man("b", "cook", 12, 2) + Checks.man("c", "boy", 3, 2)
        + Checks.post("p", 3, 1) + Checks.post("q", 1, 2) + "sea 1 0 2;shade 4;lemon 6;";
    private static final String FULL = Checks.man("a", "plain", 10, 1) + Checks.man("b", "cook", 12, 2) + Checks.man("c", "boy", 3, 2)
        + Checks.man("d", "gold", 20, 5) + Checks.man("e", "plain", 18, 0) + Checks.man("f", "plain", 18, 3)
        + Checks.post("p", 3, 1) + "sea 1 0 2;greens wet + sweat - above;";

    private final Checks checks;
    private final String ship;
    private GreenButtons navy;
    private Oracle oracle;
    private int calls = CALLS;

    private SweepTest(Checks checks, String ship) {
        this.checks = checks;
        this.ship = ship;
    }

    public static void main(String[] args) throws Exception {
        Checks checks = new Checks();
        for (String ship : new String[] {"", SMALL, FULL}) {
            new SweepTest(checks, ship).sweep();
        }
        checks.end();
    }

    private void sweep() throws Exception {
        Method[] face = GreenButtons.class.getDeclaredMethods();
        Arrays.sort(face, Comparator.comparing(Method::getName));
        for (Method method : face) {
            Class<?>[] types = method.getParameterTypes();
            boolean readsLongs = types.length > 0 && types[0] == long.class;
            boolean readsTape = readsLongs || method.getName().equals("ship");
            boolean isAsked = Modifier.isPublic(method.getModifiers()) && !readsTape;
            if (isAsked && !(ship.isEmpty() && types.length > 2)) {
                mix(method, Oracle.class.getDeclaredMethod(method.getName(), types), new ArrayList<>());
            }
        }
    }

    private void mix(Method method, Method due, List<Object> chosen) throws Exception {
        Class<?>[] types = method.getParameterTypes();
        if (chosen.size() == types.length) {
            compare(method, due, chosen.toArray());
        } else if (types[chosen.size()] == boolean.class) {
            for (boolean value : new boolean[] {false, true}) {
                chosen.add(value);
                mix(method, due, chosen);
                chosen.remove(chosen.size() - 1);
            }
        } else {
            for (int value : EDGES) {
                chosen.add(value);
                mix(method, due, chosen);
                chosen.remove(chosen.size() - 1);
            }
        }
    }

    private void compare(Method method, Method due, Object[] values) throws Exception {
        boolean isHeavy = method.getName().equals("stations") && (int) values[1] > 3 && (int) values[1] < 12;
        boolean isMuch = method.getName().equals("rests") && ((int) values[0] + (int) values[1]) % 3 != 0;
        if (isHeavy || isMuch) {
            return;
        }
        if (calls >= CALLS) {
            begin();
        }
        calls++;
        Object got = answer(navy, method, values);
        Object want = answer(oracle, due, values);
        checks.is(method.getName() + Arrays.toString(values) + " answered " + got + ", the oracle " + want, got.equals(want));
    }

    private void begin() {
        navy = new GreenButtons();
        oracle = new Oracle();
        byte[] signs = ship.getBytes();
        for (int from = 0; from < signs.length; from += 24) {
            long a = Checks.packed(signs, from);
            long b = Checks.packed(signs, from + 8);
            long c = Checks.packed(signs, from + 16);
            checks.same("feed", navy.feed(a, b, c), oracle.feed(a, b, c));
        }
        checks.same("ship", navy.ship(), oracle.ship());
        checks.is("stand", ship.isEmpty() || navy.stand(0, 0) && oracle.stand(0, 0));
        calls = 0;
    }

    private static Object answer(Object who, Method method, Object[] values) throws Exception {
        try {
            return method.invoke(who, values);
        } catch (InvocationTargetException thrown) {
            if (thrown.getCause() instanceof NoSuchElementException && method.getName().equals("rests")) {
                return "none";
            }
            throw new IllegalStateException(method.getName() + Arrays.toString(values), thrown.getCause());
        }
    }
}
