import java.lang.reflect.InvocationTargetException;
import java.lang.reflect.Method;
import java.lang.reflect.Modifier;
import java.util.Arrays;
import java.util.Comparator;
import java.util.Random;

/** Runs of 512 calls by chance (fixed seeds), each answered by the class and by the model alike. */
final class ModelTest {
    private static final Check CHECK = new Check("ModelTest");
    private static final int MOST_CALLS = 512;
    private static final int[] EDGES = {Integer.MIN_VALUE, Integer.MIN_VALUE + 1, -101, -3, -2, -1, 5, 6, 9, 10, 13, 14,
        15, 19, 20, 21, 40, 59, 60, 61, 98, 99, 100, 127, 128, 256, 32768, 1 << 30, Integer.MAX_VALUE - 1,
        Integer.MAX_VALUE};
    private static final Method[] CALLS = Arrays.stream(LampSwitches.class.getDeclaredMethods())
        .filter(call -> Modifier.isPublic(call.getModifiers()))
        .sorted(Comparator.comparing(Method::getName)).toArray(Method[]::new);

    private final Random chance;
    private final LampSwitches x = new LampSwitches();
    private final Model model = new Model();
    private final String run;
    private int calls;
    private int lamps;
    private int switches;

    private ModelTest(int seed) {
        chance = new Random(seed);
        run = "run " + seed;
    }

    public static void main(String[] args) throws ReflectiveOperationException {
        for (int seed = 0; seed < 400; seed++) {
            new ModelTest(seed).go();
        }
        for (int ready = 0; ready < 4; ready++) {
            everyOrder(ready);
        }
        CHECK.end();
    }

    private void go() throws ReflectiveOperationException {
        while (calls < MOST_CALLS) {
            int act = chance.nextInt(100);
            if (act < 3) {
                newHall();
            } else if (act < 8) {
                tellDay();
            } else if (act < 12) {
                tellHall();
            } else {
                anyCall();
            }
        }
    }

    private int call(String name, int... given) throws ReflectiveOperationException {
        Method asked = Arrays.stream(CALLS).filter(call -> call.getName().equals(name)).findFirst().orElseThrow();
        return (int) both(asked, given);
    }

    /** The class's answer, which has to be the model's; past the 512th call nothing is asked. */
    private long both(Method asked, int... given) throws ReflectiveOperationException {
        if (calls >= MOST_CALLS) {
            return 0;
        }
        calls++;
        Object[] boxed = Arrays.stream(given).boxed().toArray();
        Method same = Model.class.getDeclaredMethod(asked.getName(), asked.getParameterTypes());
        long want = ((Number) same.invoke(model, boxed)).longValue();
        String told = run + ", call " + calls + ": " + asked.getName() + Arrays.toString(given);
        try {
            long got = ((Number) asked.invoke(x, boxed)).longValue();
            CHECK.due(told, got, want);
            return got;
        } catch (InvocationTargetException thrown) {
            CHECK.due(told + " threw " + thrown.getCause(), 1, 0);
            return want;
        }
    }

    private int number() {
        return chance.nextInt(10) == 0 ? EDGES[chance.nextInt(EDGES.length)] : chance.nextInt(5);
    }

    private void anyCall() throws ReflectiveOperationException {
        Method asked = CALLS[chance.nextInt(CALLS.length)];
        // What each costs the model grows with the hall: rarely asked of the largest.
        boolean dear = "idle spare alone fewest halls".contains(asked.getName()) && lamps == 5;
        if (dear && chance.nextInt(8) > 0) {
            return;
        }
        int[] given = new int[asked.getParameterCount()];
        Arrays.setAll(given, at -> number());
        both(asked, given);
    }

    private void write(int k, int lane, int[] cells) throws ReflectiveOperationException {
        call("sheet", k, lane, cells.length);
        for (int i = 0; i < cells.length; i++) {
            call("put", k, i, cells[i]);
        }
    }

    private void newHall() throws ReflectiveOperationException {
        lamps = 1 + chance.nextInt(chance.nextInt(4) == 0 ? 5 : 4);
        switches = 1 + chance.nextInt(5);
        StringBuilder text = new StringBuilder("l");
        for (int l = 0; l < lamps; l++) {
            text.append(2 + chance.nextInt(4));
        }
        for (int s = 0; s < switches; s++) {
            text.append(';').append("pbd".charAt(chance.nextInt(3))).append(1 + chance.nextInt(4));
            for (int l = 0; l < lamps; l++) {
                text.append(chance.nextInt(2));
            }
        }
        if (chance.nextInt(4) == 0) {
            spoil(text);
        }
        int k = chance.nextInt(4);
        int lane = chance.nextInt(3);
        write(k, lane, text.chars().toArray());
        call("hall", k, lane, 0, text.length());
    }

    /** A code too few, too many, or another one. */
    private void spoil(StringBuilder text) {
        int place = chance.nextInt(text.length());
        char code = "lpbd;0123456/: P".charAt(chance.nextInt(16));
        switch (chance.nextInt(4)) {
            case 0 -> text.deleteCharAt(place);
            case 1 -> text.insert(place, code);
            case 2 -> text.setLength(place);
            default -> text.setCharAt(place, code);
        }
    }

    private void tellDay() throws ReflectiveOperationException {
        int n = chance.nextInt(chance.nextInt(8) == 0 ? 21 : 5);
        int[] pairs = new int[2 * n];
        for (int act = 0; act < n; act++) {
            boolean byLamp = chance.nextInt(3) == 0;
            pairs[2 * act] = chance.nextInt(byLamp ? 4 : switches + 1);
            pairs[2 * act + 1] = byLamp ? 10 + chance.nextInt(lamps + 1) : chance.nextInt(10);
            if (chance.nextInt(30) == 0) {
                pairs[2 * act + chance.nextInt(2)] = number();
            }
        }
        int k = chance.nextInt(4);
        int lane = chance.nextInt(3);
        write(k, lane, pairs);
        for (int what = 0; what < 5; what++) {
            call("day", k, lane, 0, n, what);
            call("day", k, lane, 0, n, 10 + what);
        }
    }

    private void tellHall() throws ReflectiveOperationException {
        int[] told = new int[lamps];
        Arrays.setAll(told, l -> chance.nextInt(3));
        int k = chance.nextInt(4);
        write(k, Check.INTS, told);
        int length = call("fewest", k, Check.INTS, 0, -1);
        for (int place = 0; place < Math.min(length + 1, lamps == 5 ? 2 : 100); place++) {
            call("fewest", k, Check.INTS, 0, place);
        }
    }

    /** All ways to put numbers around the edges into the calls that name several refusals and faults. */
    private static void everyOrder(int ready) throws ReflectiveOperationException {
        int[] sheets = {-1, 0, 1, 2, 3, 4};
        int[] lanes = {-1, 0, 1, 2, 3};
        int[] places = {-1, 0, 1, 5, 6, 7, Integer.MAX_VALUE};
        int[] lengths = {-1, 0, 1, 3, 6, 7, Integer.MAX_VALUE};
        ModelTest one = prepared(ready);
        for (int sheet : sheets) {
            for (int lane : lanes) {
                for (int i : places) {
                    one = one.calls > 400 ? prepared(ready) : one;
                    for (int n : lengths) {
                        one.call("hall", sheet, lane, i, n);
                        one.call("fault");
                    }
                    one.call("cell", sheet, i, lane);
                    one.call("fault");
                    one.call("put", sheet, i, lane);
                    one.call("fault");
                    for (int n : new int[] {-1, 0, 1, 3, 20, 21}) {
                        one.call("day", sheet, lane, i, n, 4);
                        one.call("fault");
                        one.call("day", sheet, lane, i, n, 5);
                    }
                    for (int k : new int[] {-2, -1, 0, 99, 100}) {
                        one.call("fewest", sheet, lane, i, k);
                        one.call("fault");
                    }
                }
            }
        }
        for (int sheet : sheets) {
            for (int other : sheets) {
                for (int i : places) {
                    one = prepared(ready);
                    for (int j : places) {
                        for (int n : lengths) {
                            one.call("copy", sheet, i, other, j, n);
                            one.call("fault");
                        }
                    }
                }
            }
        }
    }

    /** Sheets of 6 bytes, of 6 ints, of 3 bytes, and nothing; no hall, or one. */
    private static ModelTest prepared(int ready) throws ReflectiveOperationException {
        ModelTest one = new ModelTest(ready);
        if (ready > 0) {
            String text = new String[] {"l5;p11", "l23;b111", "l234;d1110;p2011"}[ready - 1];
            one.write(0, Check.BYTES, text.chars().toArray());
            one.call("hall", 0, Check.BYTES, 0, text.length());
        }
        one.write(0, Check.BYTES, ready == 2 ? "l5;p11".chars().toArray() : new int[] {0, 9, 1, 10, 2, 14});
        one.write(1, Check.INTS, new int[] {0, 1, 0, 0, 15, 2});
        one.write(2, Check.BYTES, new int[] {0, 0, 0});
        return one;
    }
}
