import java.lang.reflect.InvocationTargetException;
import java.lang.reflect.Method;
import java.util.Arrays;
import java.util.Comparator;
import java.util.Random;

/** Calls by chance, many with numbers that are not as told: none throws, refused ones change nothing. */
final class WildTest {
    private static final Check CHECK = new Check("WildTest");
    private static final int[] EDGES = {Integer.MIN_VALUE, Integer.MIN_VALUE + 1, -101, -2, -1, 5, 9, 10, 14, 15, 20,
        21, 59, 60, 61, 98, 99, 100, 1 << 30, Integer.MAX_VALUE - 1, Integer.MAX_VALUE};
    private static final String[] TEXTS = {"l2;p11", "l2345;p11101;b20110;d31001;p40000",
        "l55555;p110000;p101000;p100100;p100010;p100001", "l333;d1111;b2011"};

    public static void main(String[] args) throws IllegalAccessException {
        Method[] calls = LampSwitches.class.getDeclaredMethods();
        calls = Arrays.stream(calls).filter(call -> java.lang.reflect.Modifier.isPublic(call.getModifiers()))
            .sorted(Comparator.comparing(Method::getName)).toArray(Method[]::new);
        for (int seed = 0; seed < 600; seed++) {
            run(calls, new Random(seed));
        }
        CHECK.end();
    }

    private static void run(Method[] calls, Random chance) throws IllegalAccessException {
        LampSwitches x = new LampSwitches();
        if (chance.nextInt(8) > 0) {
            Check.take(x, TEXTS[chance.nextInt(TEXTS.length)]);
        }
        for (int n = 0; n < 400; n++) {
            Method call = calls[chance.nextInt(calls.length)];
            Object[] given = new Object[call.getParameterCount()];
            for (int at = 0; at < given.length; at++) {
                given[at] = chance.nextInt(12) == 0 ? EDGES[chance.nextInt(EDGES.length)] : chance.nextInt(5);
            }
            String before = stateOf(x);
            long got = answer(x, call, given);
            boolean refused = got < 0 && got >= Check.FULL && !call.getName().equals("trace");
            boolean faulted = got <= Check.NULL && got >= Check.SIZE && !call.getName().equals("trace");
            boolean byCell = call.getName().equals("cell");
            if ((refused || faulted || got == Check.LOST) && !byCell) {
                CHECK.due(call.getName() + Arrays.toString(given) + " changes nothing",
                    before.equals(stateOf(x)) ? 0 : 1, 0);
            }
        }
    }

    private static long answer(LampSwitches x, Method call, Object[] given) throws IllegalAccessException {
        try {
            CHECK.due("answered", 0, 0);
            return ((Number) call.invoke(x, given)).longValue();
        } catch (InvocationTargetException thrown) {
            CHECK.due(call.getName() + Arrays.toString(given) + " threw " + thrown.getCause(), 1, 0);
            return 0;
        }
    }

    /** All that can be seen, but for sheets and fault(), which looking at sheets would change. */
    private static String stateOf(LampSwitches x) {
        StringBuilder state = new StringBuilder();
        for (int what = 0; what <= 4; what++) {
            state.append(x.many(what)).append(' ');
            for (int at = 0; at < 5; at++) {
                state.append(x.ofLamp(at, what)).append(' ').append(x.ofSwitch(at, what)).append(' ');
            }
        }
        for (int at = 0; at < 5; at++) {
            state.append(x.turnings(at)).append(' ').append(x.kinds(at)).append(' ').append(x.shadings(at)).append(' ');
        }
        return state.append(x.trace()).toString();
    }
}
