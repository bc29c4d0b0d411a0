import java.lang.reflect.InvocationTargetException;
import java.lang.reflect.Method;
import java.util.ArrayList;
import java.util.Comparator;
import java.util.List;
import java.util.Random;

/** No call throws, whatever it is given, in whatever state; and what is refused changes nothing. */
public final class ExtremesTest {
    private static final int[] NUMBERS = {Integer.MIN_VALUE, Integer.MIN_VALUE + 1, -100001, -7, -2, -1, 0, 1, 2, 3, 4, 5, 6,
        7, 9, 10, 18, 36, 37, 60, 61, 99, 255, 0x66616c6c, Integer.MAX_VALUE - 1, Integer.MAX_VALUE};
    private static final Due due = new Due();

    public static void main(String[] args) throws IllegalAccessException {
        List<Method> calls = new ArrayList<>();
        for (Method m : ByLot.class.getDeclaredMethods()) {
            if (java.lang.reflect.Modifier.isPublic(m.getModifiers())) {
                calls.add(m);
            }
        }
        calls.sort(Comparator.comparing(Method::getName));
        for (int seed = 0; seed < 300; seed++) {
            Random random = new Random(seed);
            ByLot x = begun(random);
            for (int n = 0; n < 400; n++) {
                call(x, calls.get(random.nextInt(calls.size())), random);
            }
        }
        due.end("ExtremesTest");
    }

    private static ByLot begun(Random random) {
        ByLot x = new ByLot();
        for (int n = random.nextInt(7); n > 0; n--) {
            x.holding(random.nextInt(10));
        }
        for (int n = random.nextInt(7); n > 0; n--) {
            x.holder(random.nextInt(7), random.nextInt(10));
        }
        if (random.nextBoolean()) {
            Lands.valley(x, Texts.valley(random));
        }
        x.tape(0, random.nextInt(5), 60);
        return x;
    }

    private static void call(ByLot x, Method m, Random random) throws IllegalAccessException {
        Object[] args = new Object[m.getParameterCount()];
        StringBuilder told = new StringBuilder(m.getName());
        for (int i = 0; i < args.length; i++) {
            int n = NUMBERS[random.nextInt(NUMBERS.length)];
            args[i] = m.getParameterTypes()[i] == long.class ? (Object) ((long) n << random.nextInt(33)) : n;
            told.append(' ').append(args[i]);
        }
        String before = seen(x);
        try {
            long answer = ((Number) m.invoke(x, args)).longValue();
            boolean refused = answer < 0 && m.getName().matches(
                "holding|of|set|feed|told|holder|has|go|lot|book|judge|undo|taken|count|tape|item|read|shift|alike|looked");
            if (refused || m.getName().matches("worth|would|mends|expect|ever|rounds|pay|keep|swaps|alike|best|looked|judge")) {
                due.holds(told + " changes nothing: " + before, before.equals(seen(x)));
            } else {
                due.holds(told + " answers", true);
            }
        } catch (InvocationTargetException e) {
            due.holds(told + " throws " + e.getCause(), false);
        }
    }

    private static String seen(ByLot x) {
        StringBuilder all = new StringBuilder();
        for (int n = 0; n < 9; n++) {
            all.append(x.count(n)).append(' ');
        }
        for (int n = 0; n < 6; n++) {
            all.append(x.of(n, 0)).append(x.of(n, 1)).append(' ').append(x.has(n, 2)).append(x.has(n, 3)).append(' ');
            all.append(x.read(n, 0)).append(' ').append(x.trace(n)).append(' ');
        }
        return all.toString();
    }
}
