/** Promises 26 to 31: tell, feel, as, trace, fault, many. */
final class PartsTest {
    private static final Check CHECK = new Check("PartsTest");
    private static final String TEXT = "l23;p311;b200;d401";

    public static void main(String[] args) {
        tell();
        feel();
        as();
        traceWraps();
        fault();
        many();
        CHECK.end();
    }

    private static int traceOf(int from, int... numbers) {
        int trace = from;
        for (int number : numbers) {
            trace = 31 * trace + number;
        }
        return trace;
    }

    private static void tell() {
        LampSwitches x = Check.withHall(TEXT);
        CHECK.due("plain", x.tell(0), 3);
        int trace = traceOf(0, 1);
        CHECK.due("trace of plain", x.trace(), trace);
        CHECK.due("broad", x.tell(1), 102);
        trace = traceOf(trace, 2, 1);
        CHECK.due("trace of broad", x.trace(), trace);
        CHECK.due("double", x.tell(2), 108);
        trace = traceOf(trace, 3, 2, 1, 1);
        CHECK.due("trace of double", x.trace(), trace);
        x.turn(2, 1);
        CHECK.due("double, turned", x.tell(2), 102);
        trace = traceOf(trace, 3, 2, 1, 1);
        CHECK.due("tell(3)", x.tell(3), Check.UNKNOWN);
        for (int s : Check.NOWHERE) {
            CHECK.due("tell(" + s + ")", x.tell(s), Check.UNKNOWN);
        }
        CHECK.due("trace behind unknown ones", x.trace(), trace);
    }

    private static void feel() {
        LampSwitches x = Check.withHall(TEXT);
        CHECK.due("plain", x.feel(0), 0);
        CHECK.due("trace of plain", x.trace(), traceOf(0, 4));
        CHECK.due("broad", x.feel(1), 1);
        CHECK.due("trace of broad", x.trace(), traceOf(0, 4, 4));
        CHECK.due("double", x.feel(2), 70);
        CHECK.due("trace of double", x.trace(), traceOf(0, 4, 4, 5));
        CHECK.due("feel(3)", x.feel(3), Check.UNKNOWN);
        for (int s : Check.NOWHERE) {
            CHECK.due("feel(" + s + ")", x.feel(s), Check.UNKNOWN);
        }
        CHECK.due("trace behind unknown ones", x.trace(), traceOf(0, 4, 4, 5));
    }

    private static void as() {
        LampSwitches x = Check.withHall(TEXT);
        int[][] want = {{1, Check.CAST, Check.CAST}, {1, 1, Check.CAST}, {1, 1, 1}};
        for (int s = 0; s < 3; s++) {
            for (int kind = 0; kind < 3; kind++) {
                CHECK.dueWithFault("as(" + s + ", " + kind + ")", x, x.as(s, kind), want[s][kind]);
            }
            for (int kind : new int[] {-1, 3, Integer.MIN_VALUE, Integer.MAX_VALUE}) {
                CHECK.dueWithFault("as(" + s + ", " + kind + ")", x, x.as(s, kind), Check.OUTSIDE);
            }
        }
        CHECK.dueWithFault("as(3, 9)", x, x.as(3, 9), Check.UNKNOWN);
        for (int s : Check.NOWHERE) {
            CHECK.dueWithFault("as(" + s + ", 0)", x, x.as(s, 0), Check.UNKNOWN);
        }
        CHECK.due("no trace", x.trace(), 0);
    }

    private static void traceWraps() {
        LampSwitches x = Check.withHall(TEXT);
        int trace = 0;
        for (int n = 0; n < 30; n++) {
            CHECK.due("trace", x.trace(), trace);
            x.tell(2);
            trace = traceOf(trace, 3, 2, 1, 1);
        }
    }

    /** Sets a fault that the next call may take away. */
    private static void faulty(LampSwitches x) {
        x.lose(3);
        CHECK.due("a fault", x.put(3, 0, 0), Check.NULL);
        CHECK.due("fault()", x.fault(), 1);
    }

    private static void fault() {
        LampSwitches x = Check.withHall(TEXT);
        faulty(x);
        callsThatNameNone(x);
        CHECK.due("fault() behind calls that name none", x.fault(), 1);
        CHECK.due("fault() again", x.fault(), 1);
        x.hall(9, 0, 0, 0);
        CHECK.due("hall refused", x.fault(), 0);
        faulty(x);
        x.day(9, 0, 0, 0, 0);
        CHECK.due("day refused", x.fault(), 0);
        faulty(x);
        x.fewest(9, 0, 0, 0);
        CHECK.due("fewest refused", x.fault(), 0);
        faulty(x);
        x.sheet(9, 0, 0);
        CHECK.due("sheet refused", x.fault(), 0);
        faulty(x);
        x.put(9, 0, 0);
        CHECK.due("put refused", x.fault(), 0);
        faulty(x);
        x.cell(9, 0, 0);
        CHECK.due("cell refused", x.fault(), 0);
        faulty(x);
        x.copy(9, 0, 0, 0, 0);
        CHECK.due("copy refused", x.fault(), 0);
        faulty(x);
        x.as(9, 0);
        CHECK.due("as refused", x.fault(), 0);
        faulty(x);
        x.as(0, 0);
        CHECK.due("as taken", x.fault(), 0);
        faulty(x);
        CHECK.due("a text with a fault", Check.take(x, "l2"), -102);
        CHECK.due("no fault of the machine", x.fault(), 0);
    }

    private static void callsThatNameNone(LampSwitches x) {
        x.ofLamp(0, 0);
        x.ofLamp(9, 0);
        x.ofSwitch(0, 0);
        x.shade(0, 9);
        x.turn(0, 2);
        x.wire(0, 0);
        x.press(0, 1);
        x.press(0, 0);
        x.halls();
        x.alone(0);
        x.idle();
        x.spare();
        x.reading(0, 0, 0);
        x.back(1);
        x.turnings(0);
        x.kinds(0);
        x.shadings(0);
        x.odds(0, 0);
        x.odds(9, 0);
        x.lose(0);
        x.lose(9);
        x.tell(0);
        x.feel(9);
        x.trace();
        x.many(9);
    }

    private static void many() {
        LampSwitches x = new LampSwitches();
        CHECK.due("many(-1)", x.many(-1), Check.OUTSIDE);
        CHECK.due("many(5)", x.many(5), Check.OUTSIDE);
        CHECK.due("dark without a hall", x.many(2), 0);
        Check.take(x, TEXT);
        x.press(0, 3);
        x.press(1, 2);
        x.reading(0, 0, 0);
        int[] want = {2, 3, 1, 5, 1};
        for (int what = 0; what < 5; what++) {
            CHECK.due("many(" + what + ")", x.many(what), want[what]);
        }
        for (int what : new int[] {-1, 5, Integer.MIN_VALUE, Integer.MAX_VALUE}) {
            CHECK.due("many(" + what + ")", x.many(what), Check.OUTSIDE);
        }
    }
}
