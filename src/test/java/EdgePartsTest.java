import java.math.BigInteger;

/** The edges that the document names of bodies, TRACE, faults and counts: Terms 5, promises 26 to 31. */
final class EdgePartsTest {
    private static final Check CHECK = new Check("EdgePartsTest");
    private static final int CAST = Check.CAST, UNKNOWN = Check.UNKNOWN, OUTSIDE = Check.OUTSIDE;
    private static final int LEAST = Check.LEAST, MOST = Check.MOST;
    /** One of each kind, the first and the last of one kind. */
    private static final String TEXT = "l5;p11;b11;d11;b11;p11";

    public static void main(String[] args) {
        tellByEachBody();
        felt();
        traceAtFirst();
        traceWraps();
        traceStays();
        askedOfNone();
        as();
        asRefused();
        faultAheadOfAny();
        faultOfTheLatest();
        faultStays();
        manyOfAHall();
        manyWithoutAHall();
        manyRefused();
        CHECK.end();
    }

    private static int traceOf(int... numbers) {
        BigInteger trace = BigInteger.ZERO;
        for (int number : numbers) {
            trace = trace.multiply(BigInteger.valueOf(31)).add(BigInteger.valueOf(number));
        }
        return trace.intValue();
    }

    private static void tellByEachBody() {
        CHECK.says("as they begin: PLAIN (1): TURN. BROAD (2): what PLAIN's gives, and 100. "
            + "DOUBLE (3): what BROAD's gives, and what PLAIN's gives (BROAD's left out).");
        for (int turn = 1; turn <= 4; turn++) {
            LampSwitches x = Check.withHall("l5;p" + turn + "1");
            CHECK.due("plain of " + turn, x.tell(0), turn);
            CHECK.due("trace", x.trace(), 1);
            x = Check.withHall("l5;b" + turn + "1");
            CHECK.due("broad of " + turn, x.tell(0), turn + 100);
            CHECK.due("trace", x.trace(), 2 * 31 + 1);
            x = Check.withHall("l5;d" + turn + "1");
            CHECK.due("double of " + turn, x.tell(0), turn + turn + 100);
            CHECK.due("trace", x.trace(), ((3 * 31 + 2) * 31 + 1) * 31 + 1);
            x.turn(0, 5 - turn);
            CHECK.due("double, turned", x.tell(0), 2 * (5 - turn) + 100);
            CHECK.due("trace", x.trace(), traceOf(3, 2, 1, 1, 3, 2, 1, 1));
        }
    }

    private static void felt() {
        CHECK.says("FELT for by a lent body (4): its number; DOUBLE ones have their own (5): 70.");
        LampSwitches x = Check.withHall(TEXT);
        int[] want = {0, 1, 70, 3, 4};
        for (int s = 0; s < 5; s++) {
            CHECK.due("feel(" + s + ")", x.feel(s), want[s]);
        }
        CHECK.due("trace", x.trace(), traceOf(4, 4, 5, 4, 4));
        LampSwitches y = Check.withHall("l5" + ";d11".repeat(5));
        for (int s = 0; s < 5; s++) {
            CHECK.due("a double one, feel(" + s + ")", y.feel(s), 70);
        }
        CHECK.due("trace", y.trace(), traceOf(5, 5, 5, 5, 5));
    }

    private static void traceAtFirst() {
        CHECK.says("TRACE (an int that wraps, 0 at first, becomes 31 times it and the number)");
        LampSwitches x = new LampSwitches();
        CHECK.due("at first", x.trace(), 0);
        Check.take(x, TEXT);
        CHECK.due("behind a hall", x.trace(), 0);
        x.tell(0);
        CHECK.due("31 times 0 and 1", x.trace(), 1);
        x.tell(0);
        CHECK.due("31 times 1 and 1", x.trace(), 32);
        x.feel(0);
        CHECK.due("31 times 32 and 4", x.trace(), 996);
        CHECK.due("asked again", x.trace(), 996);
    }

    private static void traceWraps() {
        CHECK.says("(an int that wraps");
        LampSwitches x = Check.withHall(TEXT);
        int[] numbers = new int[0];
        boolean wasBelow = false;
        for (int n = 0; n < 60; n++) {
            int[] more = n % 3 == 0 ? new int[] {1} : n % 3 == 1 ? new int[] {5} : new int[] {3, 2, 1, 1};
            int length = numbers.length;
            numbers = java.util.Arrays.copyOf(numbers, length + more.length);
            System.arraycopy(more, 0, numbers, length, more.length);
            if (n % 3 == 1) {
                x.feel(2);
            } else {
                x.tell(n % 3 == 0 ? 0 : 2);
            }
            CHECK.due("trace behind " + numbers.length + " bodies", x.trace(), traceOf(numbers));
            wasBelow |= x.trace() < 0;
        }
        CHECK.due("it was below 0", wasBelow ? 1 : 0, 1);
    }

    private static void traceStays() {
        CHECK.says("bodies that leave their number in TRACE");
        LampSwitches x = Check.withHall(TEXT);
        x.tell(2);
        int trace = x.trace();
        x.tell(5);
        x.feel(-1);
        x.as(2, 1);
        x.as(0, 2);
        x.press(2, 9);
        x.ofSwitch(2, 2);
        x.kinds(2);
        x.halls();
        x.spare();
        x.odds(4, 0);
        CHECK.due("behind calls that have no body", x.trace(), trace);
        Check.take(x, "l2;p11");
        CHECK.due("behind a new hall", x.trace(), trace);
        Check.take(x, "l2;p1");
        CHECK.due("behind a text that is none", x.trace(), trace);
    }

    private static void askedOfNone() {
        CHECK.says("TELLING of a SWITCH. UNKNOWN.");
        LampSwitches none = new LampSwitches();
        LampSwitches x = Check.withHall("l555;p1111;d1111");
        for (int s : new int[] {-1, 2, 5, LEAST, MOST}) {
            CHECK.due("tell(" + s + ")", x.tell(s), UNKNOWN);
        }
        CHECK.due("no hall", none.tell(0), UNKNOWN);
        CHECK.due("no trace", x.trace(), 0);
        CHECK.due("no trace without a hall", none.trace(), 0);
        CHECK.says("How it is FELT for. UNKNOWN.");
        for (int s : new int[] {-1, 2, 5, LEAST, MOST}) {
            CHECK.due("feel(" + s + ")", x.feel(s), UNKNOWN);
        }
        CHECK.due("no hall", none.feel(0), UNKNOWN);
        CHECK.due("no trace", x.trace(), 0);
        CHECK.due("no trace without a hall", none.trace(), 0);
        LampSwitches y = Check.withHall(TEXT);
        CHECK.due("tell(4) of 5", y.tell(4), 1);
        CHECK.due("tell(5) of 5", y.tell(5), UNKNOWN);
        CHECK.due("feel(5) of 5", y.feel(5), UNKNOWN);
    }

    private static void as() {
        CHECK.says("CAST: it is none (each is a PLAIN one, too; a DOUBLE one is a BROAD one).");
        int[] kinds = {0, 1, 2, 1, 0};
        for (int s = 0; s < 5; s++) {
            for (int kind = 0; kind < 3; kind++) {
                LampSwitches x = Check.withHall(TEXT);
                CHECK.dueWithFault("as(" + s + ", " + kind + ")", x, x.as(s, kind), kind <= kinds[s] ? 1 : CAST);
                CHECK.due("kind as it was", x.ofSwitch(s, 0), kinds[s]);
            }
        }
    }

    private static void asRefused() {
        CHECK.says("A SWITCH, taken as one of a kind: 1. UNKNOWN; OUTSIDE; CAST");
        LampSwitches x = Check.withHall("l5;p11;d11");
        for (int s : new int[] {-1, 2, 5, LEAST, MOST}) {
            for (int kind : new int[] {0, 2, -1, 3}) {
                CHECK.dueWithFault("as(" + s + ", " + kind + ")", x, x.as(s, kind), UNKNOWN);
            }
        }
        for (int kind : new int[] {-1, 3, LEAST, MOST}) {
            CHECK.dueWithFault("as(0, " + kind + ")", x, x.as(0, kind), OUTSIDE);
            CHECK.dueWithFault("as(1, " + kind + ")", x, x.as(1, kind), OUTSIDE);
        }
        LampSwitches none = new LampSwitches();
        CHECK.dueWithFault("no hall", none, none.as(0, 0), UNKNOWN);
        CHECK.dueWithFault("no hall, kind 3", none, none.as(0, 3), UNKNOWN);
    }

    private static void faultAheadOfAny() {
        CHECK.says("(0 ahead of any)");
        LampSwitches x = new LampSwitches();
        CHECK.due("at first", x.fault(), 0);
        CHECK.due("asked again", x.fault(), 0);
        x.lose(0);
        x.halls();
        x.many(0);
        CHECK.due("behind calls that name none", x.fault(), 0);
    }

    /** The fault that stands when a call comes: NULL 1, CAST 2, INDEX 3 or SIZE 4. */
    private static LampSwitches withFault(int number) {
        LampSwitches x = Check.withHall(TEXT);
        x.sheet(1, Check.INTS, 12);
        switch (number) {
            case 1 -> x.put(3, 0, 0);
            case 2 -> x.as(0, 1);
            case 3 -> x.put(0, 60, 0);
            default -> x.sheet(0, 0, -1);
        }
        CHECK.due("the fault that stands", x.fault(), number);
        return x;
    }

    private static void faultOfTheLatest() {
        CHECK.says("The FAULT of the latest call that names one: 0: it came to none, or was refused");
        int n = TEXT.length();
        for (int stands = 1; stands <= 4; stands++) {
            LampSwitches x = withFault(stands);
            CHECK.dueWithFault("hall taken", x, x.hall(0, 0, 0, n), 5);
            x = withFault(stands);
            CHECK.dueWithFault("hall refused", x, x.hall(4, 0, 0, n), UNKNOWN);
            x = withFault(stands);
            CHECK.dueWithFault("a text that is none", x, x.hall(0, 0, 0, n - 1), -100 - n + 1);
            x = withFault(stands);
            CHECK.dueWithFault("day taken", x, x.day(1, Check.INTS, 0, 6, 0), 1);
            x = withFault(stands);
            CHECK.dueWithFault("day refused", x, x.day(1, Check.INTS, 0, 6, 5), OUTSIDE);
            x = withFault(stands);
            x.put(1, 1, 15);
            x.put(3, 0, 0);
            CHECK.dueWithFault("a pair refused", x, x.day(1, Check.INTS, 0, 6, 0), OUTSIDE);
            x = withFault(stands);
            CHECK.dueWithFault("fewest taken", x, x.fewest(1, Check.INTS, 0, -1), 0);
            x = withFault(stands);
            CHECK.dueWithFault("fewest refused", x, x.fewest(1, Check.INTS, 0, 100), OUTSIDE);
            x = withFault(stands);
            CHECK.dueWithFault("a shade refused", x, x.fewest(0, Check.BYTES, 0, 0), OUTSIDE);
            x = withFault(stands);
            CHECK.dueWithFault("sheet taken", x, x.sheet(2, 0, 60), 1);
            x = withFault(stands);
            CHECK.dueWithFault("sheet refused", x, x.sheet(2, 0, 61), OUTSIDE);
            x = withFault(stands);
            CHECK.dueWithFault("put taken", x, x.put(1, 0, 0), 1);
            x = withFault(stands);
            CHECK.dueWithFault("put refused", x, x.put(4, 0, 0), UNKNOWN);
            x = withFault(stands);
            CHECK.dueWithFault("cell taken", x, x.cell(1, 0, Check.INTS), 0);
            x = withFault(stands);
            CHECK.dueWithFault("cell refused", x, x.cell(1, 0, 3), Check.LOST);
            x = withFault(stands);
            CHECK.dueWithFault("cell refused", x, x.cell(4, 0, 0), Check.LOST);
            x = withFault(stands);
            CHECK.dueWithFault("copy taken", x, x.copy(1, 0, 1, 0, 0), 0);
            x = withFault(stands);
            CHECK.dueWithFault("copy refused", x, x.copy(1, 0, 4, 0, 0), UNKNOWN);
            x = withFault(stands);
            CHECK.dueWithFault("as taken", x, x.as(2, 2), 1);
            x = withFault(stands);
            CHECK.dueWithFault("as refused", x, x.as(2, 3), OUTSIDE);
            x = withFault(stands);
            CHECK.dueWithFault("another fault", x, x.put(1, -1, 0), Check.INDEX);
        }
        LampSwitches none = new LampSwitches();
        none.put(0, 0, 0);
        CHECK.dueWithFault("fewest without a hall", none, none.fewest(0, 0, 0, 0), Check.STATE);
        none.sheet(0, 0, 0);
        none.put(0, 0, 0);
        CHECK.dueWithFault("day without a hall", none, none.day(0, 0, 0, 0, 0), Check.STATE);
    }

    private static void faultStays() {
        CHECK.says("The FAULT of the latest call that names one");
        for (int stands = 1; stands <= 4; stands++) {
            LampSwitches x = withFault(stands);
            callsThatNameNone(x, 0);
            CHECK.due("behind calls that name none", x.fault(), stands);
            callsThatNameNone(x, 9);
            CHECK.due("behind such calls, refused", x.fault(), stands);
            CHECK.due("asked again", x.fault(), stands);
        }
    }

    private static void callsThatNameNone(LampSwitches x, int at) {
        x.ofLamp(at, 0);
        x.ofSwitch(at, 0);
        x.shade(at, 1);
        x.turn(at, 2);
        x.wire(at, at);
        x.press(at, 3);
        x.halls();
        x.alone(at);
        x.idle();
        x.spare();
        x.reading(at, at, 1);
        x.back(at);
        x.turnings(at);
        x.kinds(at);
        x.shadings(at);
        x.odds(at, 0);
        x.lose(at);
        x.tell(at);
        x.feel(at);
        x.trace();
        x.many(at);
    }

    private static void manyOfAHall() {
        CHECK.says("0 LAMPS, 1 SWITCHES, 2 LAMPS that are dark, 3 how often any were PRESSED (by press()), 4 READINGS");
        LampSwitches x = Check.withHall("l55555;p110000;p111111;p111111;p111111;p100000");
        int[] first = {5, 5, 5, 0, 0};
        for (int what = 0; what < 5; what++) {
            CHECK.due("many(" + what + ") of the largest", x.many(what), first[what]);
        }
        x.press(0, 1);
        x.press(4, 99);
        x.press(4, 100);
        x.reading(4, 4, 4);
        Check.write(x, 1, Check.INTS, 1, 9);
        x.day(1, Check.INTS, 0, 1, 0);
        int[] then = {5, 5, 4, 100, 1};
        for (int what = 0; what < 5; what++) {
            CHECK.due("many(" + what + ") then", x.many(what), then[what]);
        }
        x.press(1, 1);
        CHECK.due("none is dark", x.many(2), 0);
        for (int l = 0; l < 5; l++) {
            x.shade(l, 0);
            CHECK.due("dark one by one", x.many(2), l + 1);
        }
        LampSwitches y = Check.withHall("l2;p11");
        int[] small = {1, 1, 1, 0, 0};
        for (int what = 0; what < 5; what++) {
            CHECK.due("many(" + what + ") of the smallest", y.many(what), small[what]);
        }
    }

    private static void manyWithoutAHall() {
        CHECK.says("(0 all without a HALL)");
        LampSwitches x = new LampSwitches();
        for (int what = 0; what < 5; what++) {
            CHECK.due("many(" + what + ")", x.many(what), 0);
        }
        x.press(0, 1);
        x.reading(0, 0, 0);
        x.shade(0, 0);
        Check.take(x, "l2;p1");
        for (int what = 0; what < 5; what++) {
            CHECK.due("many(" + what + ") behind refused calls", x.many(what), 0);
        }
    }

    private static void manyRefused() {
        CHECK.says("`int many(int what)`");
        LampSwitches none = new LampSwitches();
        LampSwitches x = Check.withHall(TEXT);
        for (int what : new int[] {-1, 5, LEAST, MOST}) {
            CHECK.due("many(" + what + ")", x.many(what), OUTSIDE);
            CHECK.due("many(" + what + ") without a hall", none.many(what), OUTSIDE);
        }
    }
}
