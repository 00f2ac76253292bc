import java.lang.reflect.InvocationTargetException;
import java.lang.reflect.Method;
import java.util.Arrays;
import java.util.Random;

/**
 * Every call of the face by lot, right and wrong numbers, each answer against Twin's: 512 calls of each object, as
 * many as the document promises anything of. The lots are the same in every run.
 */
public final class TwinTest {
    private static final int OBJECTS = 240;
    private static final int CALLS = 512;
    private static final Check check = new Check();
    private static final int[] EDGES = {Integer.MIN_VALUE, -129, -9, -1, 0, 1, 2, 3, 4, 5, 6, 7, 8, 9, 10, 11, 12, 13,
        14, 19, 20, 21, 39, 40, 41, 59, 60, 61, 99, 100, 127, 128, 255, 256, 2147483646, Integer.MAX_VALUE};
    /** A call, how often it is chosen, and the most that each of its numbers is, unless it is a wrong one. */
    private static final String[] LOTS = {"row 2 5 14", "lay 12 5 12 6", "at 8 5 12", "tear 2 5", "copy 6 5 6 5 6 6",
        "mean 4 5", "text 1 3 60", "put 2 3 59 255", "fault 6 3", "camp 1 3", "hill 12 5 5", "tent 12 11 2",
        "mark 8 5 5", "speak 24 5", "day 12", "change 12 11 11", "undo 3 24", "keep 4 2", "on 4 2", "only 6 5 5",
        "hidden 4", "fewest 3", "waits 8 5 2", "curse 1 5", "spare 1 5", "orders 1 12", "rides 8 5", "blessed 1",
        "fees 6 9 9 9 9", "from 8 5", "kinds 8 5 5", "given 8 11 5 5", "king 1 2", "odds 6 5 12", "mid 4 12",
        "lots 3 9 2147483646", "asked 20", "upper 6", "lower 6", "count 12 10", "finding 8", "findings 8 5",
        "digest 20"};

    private final Random random;
    private final HillSeer x = new HillSeer();
    private final Twin twin = new Twin();
    private final String where;
    private int calls = 0;

    private TwinTest(int seed) {
        random = new Random(seed);
        where = "object " + seed + ", call ";
    }

    public static void main(String[] args) throws ReflectiveOperationException {
        int weights = Arrays.stream(LOTS).mapToInt(lot -> Integer.parseInt(lot.split(" ")[1])).sum();
        for (int seed = 1; seed <= OBJECTS; seed++) {
            TwinTest run = new TwinTest(seed);
            if (seed % 8 != 0) {
                run.begin();
            }
            while (run.calls < CALLS - 1) {
                run.goOn(weights);
            }
            run.call("digest");
            check.due(run.where + "s in all", run.calls, CALLS);
        }
        long chosen = Arrays.stream(HillSeer.class.getDeclaredMethods())
                .filter(m -> java.lang.reflect.Modifier.isPublic(m.getModifiers())).count();
        check.due("calls of the face that are chosen from", LOTS.length, chosen);
        check.end();
    }

    private void begin() throws ReflectiveOperationException {
        writeCamp(0, false);
        call("camp", 0);
        for (int r = 0; r < 5; r++) {
            call("row", r, 2 * random.nextInt(8));
        }
    }

    private void goOn(int weights) throws ReflectiveOperationException {
        int macro = random.nextInt(120);
        if (macro == 0) {
            writeCamp(random.nextInt(4), random.nextInt(3) > 0);
        } else if (macro < 5) {
            writeNotes(random.nextInt(6));
        } else {
            int left = random.nextInt(weights);
            int at = 0;
            while (left >= Integer.parseInt(LOTS[at].split(" ")[1])) {
                left -= Integer.parseInt(LOTS[at].split(" ")[1]);
                at++;
            }
            call(LOTS[at].split(" "));
        }
    }

    private void call(String[] lot) throws ReflectiveOperationException {
        int[] values = new int[lot.length - 2];
        for (int i = 0; i < values.length; i++) {
            int most = Integer.parseInt(lot[i + 2]);
            int least = lot[0].equals("lay") && i == 2 ? -1 : 0;
            values[i] = random.nextInt(16) == 0 ? EDGES[random.nextInt(EDGES.length)]
                    : least + random.nextInt(most - least + 1);
        }
        call(lot[0], values);
    }

    private void call(String name, int... values) throws ReflectiveOperationException {
        if (calls >= CALLS) {
            return;
        }
        calls++;
        String shown = where + calls + ": " + name + Arrays.toString(values);
        long want = answer(Twin.class, twin, name, values);
        check.due(shown, answer(HillSeer.class, x, name, values), want);
    }

    private static long answer(Class<?> type, Object on, String name, int[] values)
            throws NoSuchMethodException, IllegalAccessException, InvocationTargetException {
        Class<?>[] types = new Class<?>[values.length];
        Arrays.fill(types, int.class);
        Method method = type.getDeclaredMethod(name, types);
        return ((Number) method.invoke(on, Arrays.stream(values).boxed().toArray())).longValue();
    }

    /** A CAMP by lot; a spoiled one perhaps has no HILLS, too many, or one byte that is another, more or less. */
    private void writeCamp(int t, boolean isSpoiled) throws ReflectiveOperationException {
        StringBuilder text = new StringBuilder(" ".repeat(random.nextInt(3))).append('t');
        int lean = random.nextInt(3);
        for (int i = 0; i < 12; i++) {
            text.append(lean == 0 ? random.nextInt(10) : lean == 1 ? random.nextInt(7) : 3 + random.nextInt(4));
        }
        int hills = isSpoiled ? random.nextInt(8) : random.nextInt(3) == 0 ? 1 + random.nextInt(6) : 6;
        for (int h = 0; h < hills; h++) {
            int first = random.nextInt(12);
            text.append(" ".repeat(random.nextInt(2))).append("hbwfir".charAt(random.nextInt(6)))
                    .append(first / 10).append(first % 10).append(1 + random.nextInt(9));
        }
        int spoiled = isSpoiled ? random.nextInt(4) : 3;
        int at = random.nextInt(text.length());
        if (spoiled == 0) {
            text.setCharAt(at, "th019 2\0\u00ff".charAt(random.nextInt(9)));
        } else if (spoiled == 1) {
            text.deleteCharAt(at);
        } else if (spoiled == 2) {
            text.insert(at, "th019 2:/".charAt(random.nextInt(9)));
        }
        call("text", t, Math.min(60, text.length()));
        for (int i = 0; i < text.length(); i++) {
            call("put", t, i, text.charAt(i));
        }
        call("fault", t);
    }

    private void writeNotes(int r) throws ReflectiveOperationException {
        int pairs = random.nextInt(5) == 0 ? random.nextInt(10) : random.nextInt(3);
        call("row", r, 2 * pairs);
        for (int i = 0; i < pairs; i++) {
            call("lay", r, 2 * i, random.nextInt(random.nextInt(9) == 0 ? 110 : 100));
            call("lay", r, 2 * i + 1, random.nextInt(random.nextInt(9) == 0 ? 4 : 3));
        }
    }
}
