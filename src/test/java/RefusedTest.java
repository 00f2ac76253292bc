import java.lang.reflect.InvocationTargetException;
import java.lang.reflect.Method;
import java.util.Arrays;
import java.util.Comparator;
import java.util.Random;
import java.util.Set;

/**
 * Every call with numbers of all sorts in states of all sorts: none throws, and what is refused changes nothing. Each
 * object is used for less than 512 calls: behind these the document leaves the answers free.
 */
public final class RefusedTest {
    private static final int[] EDGES = {Integer.MIN_VALUE, Integer.MIN_VALUE + 1, -1000, -9, -2, -1, 0, 1, 2, 3, 4, 5,
        6, 7, 8, 9, 10, 11, 12, 13, 16, 18, 20, 21, 39, 40, 41, 60, 61, 99, 100, 119, 127, 128, 2147483646,
        Integer.MAX_VALUE};
    private static final Set<Integer> REFUSALS = Set.of(-1, -2, -3, -4, -6);
    private static final Check check = new Check();

    public static void main(String[] args) throws IllegalAccessException, InvocationTargetException {
        Method[] methods = Arrays.stream(HillSeer.class.getDeclaredMethods())
                .filter(m -> java.lang.reflect.Modifier.isPublic(m.getModifiers())).toArray(Method[]::new);
        Arrays.sort(methods, Comparator.comparing(Method::getName));
        for (int seed = 1; seed <= 6000; seed++) {
            Random random = new Random(seed);
            HillSeer x = seed % 3 == 0 ? new HillSeer()
                    : Check.camped(seed % 3 == 1 ? Check.ALL_KINDS : Check.THREE_HILLS);
            for (int i = 0; i < 20; i++) {
                call(x, methods[random.nextInt(methods.length)], random);
            }
        }
        check.end();
    }

    private static void call(HillSeer x, Method method, Random random)
            throws IllegalAccessException, InvocationTargetException {
        Object[] values = new Object[method.getParameterCount()];
        for (int i = 0; i < values.length; i++) {
            values[i] = random.nextInt(3) == 0 ? EDGES[random.nextInt(EDGES.length)] : random.nextInt(7);
        }
        String before = told(x);
        int finding = x.finding();
        long found = found(x);
        Object answer = method.invoke(x, values);
        boolean asks = Set.of("asked", "upper", "finding", "digest").contains(method.getName());
        if (!asks && answer instanceof Integer number && REFUSALS.contains(number)) {
            String call = method.getName() + Arrays.toString(values) + " = " + number;
            check.due(call + " changes nothing", told(x).equals(before) ? 1 : 0, 1);
            check.due(call + " is found, or not", found(x) - found, number == -3 ? 1 : 0);
            if (number != -3) {
                check.due(call + " leaves finding()", x.finding(), finding);
            }
        }
    }

    private static long found(HillSeer x) {
        long sum = 0;
        for (int f = 1; f <= 5; f++) {
            sum += x.findings(f);
        }
        return sum;
    }

    private static String told(HillSeer x) {
        return x.digest() + " " + x.asked() + " " + x.upper() + " " + x.lower();
    }
}
