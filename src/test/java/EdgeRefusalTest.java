import java.util.function.Supplier;
import java.util.function.ToLongFunction;

/** Each refusal and each fault of each call: what it answers, what fault() tells then, that nothing else changes. */
final class EdgeRefusalTest {
    private static final Check CHECK = new Check("EdgeRefusalTest");
    private static final int NULL = Check.NULL, CAST = Check.CAST, INDEX = Check.INDEX, SIZE = Check.SIZE;
    private static final int UNKNOWN = Check.UNKNOWN, OUTSIDE = Check.OUTSIDE, STATE = Check.STATE, FULL = Check.FULL;
    private static final int BYTES = Check.BYTES, SHORTS = Check.SHORTS, INTS = Check.INTS;
    private static final int LEAST = Check.LEAST, MOST = Check.MOST;
    private static final long LOST = Check.LOST;
    private static final String TEXT = "l235;p1110;b2011;d1101";
    /** 1 below the least and 1 above the largest of LAMPS or SWITCHES of the hall at work, and the widest. */
    private static final int[] NOT_OF_3 = {-1, 3, 4, 5, 31, 32, LEAST, MOST};
    private static final int[] NO_SHEETS = {-1, 4, LEAST, MOST};
    private static final int[] NO_LANES = {-1, 3, LEAST, MOST};

    private static Supplier<LampSwitches> made;
    private static int stands;

    public static void main(String[] args) {
        CHECK.says("they change nothing (but fault(), of a call that names FAULTS)");
        // A fault that stands is told by fault() until a call that names faults is refused.
        for (int number : new int[] {1, 4}) {
            atWorkWith(number);
            callsThatNameNone();
            refusedCallsThatNameFaults();
            refusedPairsAndShades();
        }
        withoutAHall();
        fullOfReadings();
        CHECK.says("it answers -10 less it (LOST, where a long is answered, as for refusals) and changes nothing; fault() tells it");
        for (int number : new int[] {1, 2, 3, 4}) {
            atWorkWith(number);
            faults();
        }
        CHECK.says("Of a call the first that is come to, in the order told");
        inTheOrderTold();
        CHECK.end();
    }

    private static void atWorkWith(int number) {
        stands = number;
        made = () -> atWork(number, 2);
    }

    /**
     * A hall of 3 lamps and 3 switches in which all was used, with so many readings; bytes, ints, no shorts,
     * nothing in sheets 0 to 3, and a fault that stands.
     */
    private static LampSwitches atWork(int fault, int readings) {
        LampSwitches x = Check.withHall(TEXT);
        x.press(0, 5);
        x.press(1, 2);
        x.shade(1, 2);
        x.turn(1, 4);
        x.wire(2, 1);
        for (int number = 0; number < readings; number++) {
            x.reading(number % 3, 2, number % 2 == 0 ? 0 : 2);
        }
        x.tell(2);
        Check.write(x, 1, INTS, 0, 1, 2, 12, 1, 9);
        x.sheet(2, SHORTS, 0);
        stand(x, fault);
        return x;
    }

    private static void stand(LampSwitches x, int fault) {
        switch (fault) {
            case 1 -> x.put(3, 0, 0);
            case 2 -> x.cell(0, 0, INTS);
            case 3 -> x.put(2, 0, 0);
            default -> x.sheet(3, 0, -1);
        }
    }

    /** A call that names no faults. */
    private static void refused(String call, ToLongFunction<LampSwitches> asked, long want) {
        CHECK.dueUnchanged(call, made, asked, want, stands);
    }

    /** A call that names faults, but comes to none. */
    private static void cleared(String call, ToLongFunction<LampSwitches> asked, long want) {
        CHECK.dueUnchanged(call, made, asked, want, 0);
    }

    private static void faulted(String call, ToLongFunction<LampSwitches> asked, int want) {
        CHECK.dueUnchanged(call, made, asked, want, -10 - want);
    }

    private static void lost(String call, ToLongFunction<LampSwitches> asked, int fault) {
        CHECK.dueUnchanged(call, made, asked, LOST, fault);
    }

    private static void callsThatNameNone() {
        for (int at : NOT_OF_3) {
            refused("ofLamp(" + at + ", 0)", x -> x.ofLamp(at, 0), UNKNOWN);
            refused("ofSwitch(" + at + ", 0)", x -> x.ofSwitch(at, 0), UNKNOWN);
            refused("shade(" + at + ", 1)", x -> x.shade(at, 1), UNKNOWN);
            refused("turn(" + at + ", 1)", x -> x.turn(at, 1), UNKNOWN);
            refused("wire(" + at + ", 0)", x -> x.wire(at, 0), UNKNOWN);
            refused("wire(0, " + at + ")", x -> x.wire(0, at), UNKNOWN);
            refused("press(" + at + ", 1)", x -> x.press(at, 1), UNKNOWN);
            refused("alone(" + at + ")", x -> x.alone(at), UNKNOWN);
            refused("reading(" + at + ", 0, 0)", x -> x.reading(at, 0, 0), UNKNOWN);
            refused("reading(0, " + at + ", 0)", x -> x.reading(0, at, 0), UNKNOWN);
            refused("turnings(" + at + ")", x -> x.turnings(at), UNKNOWN);
            refused("kinds(" + at + ")", x -> x.kinds(at), UNKNOWN);
            refused("shadings(" + at + ")", x -> x.shadings(at), UNKNOWN);
            refused("tell(" + at + ")", x -> x.tell(at), UNKNOWN);
            refused("feel(" + at + ")", x -> x.feel(at), UNKNOWN);
        }
        for (int far : new int[] {-1, 100, LEAST, MOST}) {
            refused("ofLamp(2, " + far + ")", x -> x.ofLamp(2, far), OUTSIDE);
            refused("ofSwitch(2, " + far + ")", x -> x.ofSwitch(2, far), OUTSIDE);
            refused("shade(2, " + far + ")", x -> x.shade(2, far), OUTSIDE);
            refused("turn(2, " + far + ")", x -> x.turn(2, far), OUTSIDE);
            refused("press(2, " + far + ")", x -> x.press(2, far), OUTSIDE);
            refused("reading(2, 2, " + far + ")", x -> x.reading(2, 2, far), OUTSIDE);
            refused("back(" + far + ")", x -> x.back(far), OUTSIDE);
            refused("odds(" + far + ", 0)", x -> x.odds(far, 0), LOST);
            refused("odds(0, " + far + ")", x -> x.odds(0, far), LOST);
            refused("many(" + far + ")", x -> x.many(far), OUTSIDE);
        }
        refused("ofLamp(0, 3)", x -> x.ofLamp(0, 3), OUTSIDE);
        refused("ofSwitch(0, 5)", x -> x.ofSwitch(0, 5), OUTSIDE);
        refused("shade(0, 2)", x -> x.shade(0, 2), OUTSIDE);
        refused("shade(1, 3)", x -> x.shade(1, 3), OUTSIDE);
        refused("shade(2, 5)", x -> x.shade(2, 5), OUTSIDE);
        refused("turn(0, 0)", x -> x.turn(0, 0), OUTSIDE);
        refused("turn(0, 5)", x -> x.turn(0, 5), OUTSIDE);
        refused("press(0, 0)", x -> x.press(0, 0), OUTSIDE);
        refused("reading(0, 0, 5)", x -> x.reading(0, 0, 5), OUTSIDE);
        refused("back(3)", x -> x.back(3), OUTSIDE);
        refused("odds(5, 1)", x -> x.odds(5, 1), LOST);
        refused("odds(4, 2)", x -> x.odds(4, 2), LOST);
        refused("many(5)", x -> x.many(5), OUTSIDE);
        for (int k : NO_SHEETS) {
            refused("lose(" + k + ")", x -> x.lose(k), UNKNOWN);
        }
        refused("lose(3)", x -> x.lose(3), 0);
    }

    private static void refusedCallsThatNameFaults() {
        for (int k : NO_SHEETS) {
            cleared("hall of sheet " + k, x -> x.hall(k, BYTES, 0, 22), UNKNOWN);
            cleared("day of sheet " + k, x -> x.day(k, INTS, 0, 3, 0), UNKNOWN);
            cleared("fewest of sheet " + k, x -> x.fewest(k, INTS, 0, -1), UNKNOWN);
            cleared("sheet " + k, x -> x.sheet(k, BYTES, 1), UNKNOWN);
            cleared("put to sheet " + k, x -> x.put(k, 0, 1), UNKNOWN);
            lost("cell of sheet " + k, x -> x.cell(k, 0, BYTES), 0);
            cleared("copy of sheet " + k, x -> x.copy(k, 0, 1, 0, 1), UNKNOWN);
            cleared("copy to sheet " + k, x -> x.copy(1, 0, k, 0, 1), UNKNOWN);
        }
        for (int lane : NO_LANES) {
            cleared("hall of lane " + lane, x -> x.hall(0, lane, 0, 22), OUTSIDE);
            cleared("day of lane " + lane, x -> x.day(1, lane, 0, 3, 0), OUTSIDE);
            cleared("fewest of lane " + lane, x -> x.fewest(1, lane, 0, -1), OUTSIDE);
            cleared("sheet of lane " + lane, x -> x.sheet(0, lane, 1), OUTSIDE);
            lost("cell of lane " + lane, x -> x.cell(0, 0, lane), 0);
        }
        for (int n : new int[] {-1, 21, LEAST, MOST}) {
            cleared("day of n " + n, x -> x.day(1, INTS, 0, n, 0), OUTSIDE);
        }
        for (int what : new int[] {-1, 5, 9, 15, LEAST, MOST}) {
            cleared("day, what " + what, x -> x.day(1, INTS, 0, 3, what), OUTSIDE);
        }
        for (int k : new int[] {-2, 100, LEAST, MOST}) {
            cleared("fewest, k " + k, x -> x.fewest(1, INTS, 0, k), OUTSIDE);
        }
        for (int n : new int[] {61, MOST}) {
            cleared("sheet of " + n, x -> x.sheet(0, BYTES, n), OUTSIDE);
        }
        for (int s : NOT_OF_3) {
            cleared("as(" + s + ", 0)", x -> x.as(s, 0), UNKNOWN);
        }
        for (int kind : new int[] {-1, 3, LEAST, MOST}) {
            cleared("as(2, " + kind + ")", x -> x.as(2, kind), OUTSIDE);
        }
        cleared("a text that ends too soon", x -> x.hall(0, BYTES, 0, 21), -121);
        cleared("a text that is none", x -> x.hall(1, INTS, 0, 6), -100);
        cleared("a text of no codes", x -> x.hall(2, SHORTS, 0, 0), -100);
    }

    private static void refusedPairsAndShades() {
        cleared("second 108", x -> x.day(0, BYTES, 1, 1, 0), OUTSIDE);
        made = () -> withCells(0, 15);
        cleared("second 15", x -> x.day(1, INTS, 0, 1, 0), OUTSIDE);
        made = () -> withCells(5, 10);
        cleared("first 5 of a lamp", x -> x.day(1, INTS, 0, 1, 0), OUTSIDE);
        made = () -> withCells(3, 9);
        cleared("first 3 of a switch", x -> x.day(1, INTS, 0, 1, 0), UNKNOWN);
        made = () -> withCells(3, 11);
        cleared("one that can't be", x -> x.day(1, INTS, 0, 1, 0), -100);
        made = () -> withCells(2, 0, 0);
        cleared("no shade 2 of lamp 0", x -> x.fewest(1, INTS, 0, -1), OUTSIDE);
        made = () -> withCells(1, 2, 5);
        cleared("no shade 5 of lamp 2", x -> x.fewest(1, INTS, 0, -1), OUTSIDE);
        made = () -> withCells(1, -1, 4);
        cleared("no shade -1 of lamp 1", x -> x.fewest(1, INTS, 0, 0), OUTSIDE);
    }

    private static LampSwitches withCells(int... cells) {
        LampSwitches x = atWork(1, 2);
        Check.write(x, 1, INTS, cells);
        x.put(3, 0, 0);
        return x;
    }

    private static LampSwitches noHall() {
        LampSwitches x = new LampSwitches();
        Check.write(x, 1, INTS, 0, 1, 0, 1);
        x.sheet(2, BYTES, -1);
        return x;
    }

    private static void withoutAHall() {
        made = EdgeRefusalTest::noHall;
        stands = 4;
        refused("ofLamp(0, 0)", x -> x.ofLamp(0, 0), UNKNOWN);
        refused("ofSwitch(0, 0)", x -> x.ofSwitch(0, 0), UNKNOWN);
        refused("shade(0, 0)", x -> x.shade(0, 0), UNKNOWN);
        refused("turn(0, 1)", x -> x.turn(0, 1), UNKNOWN);
        refused("wire(0, 0)", x -> x.wire(0, 0), UNKNOWN);
        refused("press(0, 1)", x -> x.press(0, 1), UNKNOWN);
        refused("halls()", LampSwitches::halls, STATE);
        refused("alone(0)", x -> x.alone(0), UNKNOWN);
        refused("idle()", LampSwitches::idle, STATE);
        refused("spare()", LampSwitches::spare, STATE);
        refused("reading(0, 0, 0)", x -> x.reading(0, 0, 0), UNKNOWN);
        refused("back(1)", x -> x.back(1), OUTSIDE);
        refused("turnings(0)", x -> x.turnings(0), UNKNOWN);
        refused("kinds(0)", x -> x.kinds(0), UNKNOWN);
        refused("shadings(0)", x -> x.shadings(0), UNKNOWN);
        refused("odds(0, 0)", x -> x.odds(0, 0), LOST);
        refused("odds(4, 1)", x -> x.odds(4, 1), LOST);
        refused("tell(0)", x -> x.tell(0), UNKNOWN);
        refused("feel(0)", x -> x.feel(0), UNKNOWN);
        refused("many(5)", x -> x.many(5), OUTSIDE);
        cleared("day", x -> x.day(1, INTS, 0, 2, 0), STATE);
        cleared("fewest", x -> x.fewest(1, INTS, 0, -1), STATE);
        cleared("as(0, 0)", x -> x.as(0, 0), UNKNOWN);
        cleared("hall", x -> x.hall(1, INTS, 0, 4), -100);
    }

    private static void fullOfReadings() {
        made = () -> atWork(3, 8);
        stands = 3;
        refused("a ninth reading", x -> x.reading(0, 0, 0), FULL);
        refused("a ninth reading, v 5", x -> x.reading(0, 0, 5), OUTSIDE);
        refused("a ninth reading of lamp 3", x -> x.reading(0, 3, 0), UNKNOWN);
        refused("a ninth reading by switch 3", x -> x.reading(3, 0, 0), UNKNOWN);
        refused("back(9)", x -> x.back(9), OUTSIDE);
    }

    private static void faults() {
        for (int lane = 0; lane < 3; lane++) {
            int as = lane;
            faulted("hall of nothing", x -> x.hall(3, as, 0, 0), NULL);
            faulted("day of nothing", x -> x.day(3, as, 0, 0, 0), NULL);
            faulted("fewest of nothing", x -> x.fewest(3, as, 0, 0), NULL);
            lost("cell of nothing", x -> x.cell(3, 0, as), 1);
        }
        faulted("put to nothing", x -> x.put(3, 0, 1), NULL);
        faulted("copy of nothing", x -> x.copy(3, 0, 1, 0, 0), NULL);
        faulted("copy to nothing", x -> x.copy(1, 0, 3, 0, 0), NULL);
        faulted("hall of bytes as ints", x -> x.hall(0, INTS, 0, 22), CAST);
        faulted("day of ints as shorts", x -> x.day(1, SHORTS, 0, 3, 0), CAST);
        faulted("fewest of ints as bytes", x -> x.fewest(1, BYTES, 0, -1), CAST);
        lost("cell of bytes as shorts", x -> x.cell(0, 0, SHORTS), 2);
        faulted("copy of ints to bytes", x -> x.copy(1, 0, 0, 0, 1), CAST);
        faulted("copy of bytes to shorts", x -> x.copy(0, 0, 2, 0, 0), CAST);
        faulted("a plain one as a broad one", x -> x.as(0, 1), CAST);
        faulted("a plain one as a double one", x -> x.as(0, 2), CAST);
        faulted("a broad one as a double one", x -> x.as(1, 2), CAST);
        faulted("hall of 23 cells of 22", x -> x.hall(0, BYTES, 0, 23), INDEX);
        faulted("hall from -1 on", x -> x.hall(0, BYTES, -1, 22), INDEX);
        faulted("day of 4 pairs of 3", x -> x.day(1, INTS, 0, 4, 0), INDEX);
        faulted("day from -1 on", x -> x.day(1, INTS, -1, 3, 0), INDEX);
        faulted("fewest from 4 on of 6", x -> x.fewest(1, INTS, 4, -1), INDEX);
        faulted("fewest of no cells", x -> x.fewest(2, SHORTS, 0, -1), INDEX);
        faulted("put behind the last", x -> x.put(1, 6, 1), INDEX);
        faulted("put ahead of the first", x -> x.put(1, -1, 1), INDEX);
        faulted("put to no cells", x -> x.put(2, 0, 1), INDEX);
        lost("cell behind the last", x -> x.cell(1, 6, INTS), 3);
        lost("cell ahead of the first", x -> x.cell(1, -1, INTS), 3);
        faulted("copy of 7 of 6", x -> x.copy(1, 0, 1, 0, 7), INDEX);
        faulted("copy to behind the last", x -> x.copy(1, 0, 1, 6, 1), INDEX);
        faulted("copy of -1 cells", x -> x.copy(1, 1, 1, 1, -1), INDEX);
        faulted("hall of -1 cells", x -> x.hall(0, BYTES, 0, -1), SIZE);
        faulted("hall of the least cells", x -> x.hall(0, BYTES, 0, LEAST), SIZE);
        faulted("sheet of -1", x -> x.sheet(0, BYTES, -1), SIZE);
        faulted("sheet of the least", x -> x.sheet(1, INTS, LEAST), SIZE);
    }

    /** Each time the first thing that is not as told is mended, and the next one is told. */
    private static void inTheOrderTold() {
        LampSwitches x = atWork(1, 8);
        CHECK.dueWithFault("hall", x, x.hall(4, 3, -1, -1), UNKNOWN);
        CHECK.dueWithFault("hall", x, x.hall(3, 3, -1, -1), OUTSIDE);
        CHECK.dueWithFault("hall", x, x.hall(3, 0, -1, -1), NULL);
        CHECK.dueWithFault("hall", x, x.hall(0, 1, -1, -1), CAST);
        CHECK.dueWithFault("hall", x, x.hall(0, 0, -1, -1), SIZE);
        CHECK.dueWithFault("hall", x, x.hall(0, 0, -1, 3), INDEX);
        CHECK.dueWithFault("hall", x, x.hall(0, 0, 1, 3), -100);
        CHECK.due("ofLamp", x.ofLamp(3, 3), UNKNOWN);
        CHECK.due("ofSwitch", x.ofSwitch(3, 5), UNKNOWN);
        CHECK.due("shade", x.shade(3, 5), UNKNOWN);
        CHECK.due("turn", x.turn(3, 5), UNKNOWN);
        CHECK.due("press", x.press(3, 100), UNKNOWN);
        Check.write(x, 1, INTS, 9, 15, 9, 9, 3, 11);
        CHECK.dueWithFault("day", x, x.day(4, 3, -1, 21, 5), UNKNOWN);
        CHECK.dueWithFault("day", x, x.day(3, 0, -1, 20, 5), OUTSIDE);
        CHECK.dueWithFault("day", x, x.day(3, 0, -1, 20, 4), NULL);
        CHECK.dueWithFault("day", x, x.day(1, 0, -1, 20, 4), CAST);
        CHECK.dueWithFault("day", x, x.day(1, 2, -1, 20, 4), INDEX);
        CHECK.dueWithFault("day", x, x.day(1, 2, 0, 3, 4), OUTSIDE);
        CHECK.dueWithFault("day", x, x.day(1, 2, 2, 2, 4), UNKNOWN);
        CHECK.dueWithFault("day", x, x.day(1, 2, 4, 1, 4), -100);
        CHECK.dueWithFault("fewest", x, x.fewest(4, 3, -1, 100), UNKNOWN);
        CHECK.dueWithFault("fewest", x, x.fewest(3, 0, -1, 100), OUTSIDE);
        CHECK.dueWithFault("fewest", x, x.fewest(3, 0, -1, 99), NULL);
        CHECK.dueWithFault("fewest", x, x.fewest(1, 0, -1, 99), CAST);
        CHECK.dueWithFault("fewest", x, x.fewest(1, 2, -1, 99), INDEX);
        CHECK.dueWithFault("fewest", x, x.fewest(1, 2, 0, 99), OUTSIDE);
        CHECK.due("reading", x.reading(3, 3, 5), UNKNOWN);
        CHECK.due("reading", x.reading(2, 2, 5), OUTSIDE);
        CHECK.due("reading", x.reading(2, 2, 4), FULL);
        CHECK.dueWithFault("sheet", x, x.sheet(4, 3, -1), UNKNOWN);
        CHECK.dueWithFault("sheet", x, x.sheet(3, 3, -1), OUTSIDE);
        CHECK.dueWithFault("sheet", x, x.sheet(3, 0, -1), SIZE);
        CHECK.dueWithFault("put", x, x.put(4, -1, 0), UNKNOWN);
        CHECK.dueWithFault("put", x, x.put(3, -1, 0), NULL);
        CHECK.dueWithFault("put", x, x.put(2, -1, 0), INDEX);
        CHECK.dueWithFault("copy", x, x.copy(3, -1, 4, -1, -1), UNKNOWN);
        CHECK.dueWithFault("copy", x, x.copy(3, -1, 1, -1, -1), NULL);
        CHECK.dueWithFault("copy", x, x.copy(0, -1, 3, -1, -1), NULL);
        CHECK.dueWithFault("copy", x, x.copy(0, -1, 1, -1, -1), CAST);
        CHECK.dueWithFault("copy", x, x.copy(1, -1, 1, -1, -1), INDEX);
        CHECK.dueWithFault("as", x, x.as(3, 3), UNKNOWN);
        CHECK.dueWithFault("as", x, x.as(0, 3), OUTSIDE);
        CHECK.dueWithFault("as", x, x.as(0, 2), CAST);
        LampSwitches none = new LampSwitches();
        CHECK.dueWithFault("fewest without a hall", none, none.fewest(4, 3, -1, 100), STATE);
        CHECK.dueWithFault("day without a hall", none, none.day(0, 0, 0, 0, 0), NULL);
        none.sheet(0, 0, 2);
        none.put(0, 1, 15);
        CHECK.dueWithFault("day without a hall", none, none.day(0, 0, 0, 2, 0), INDEX);
        CHECK.dueWithFault("day without a hall", none, none.day(0, 0, 0, 1, 0), STATE);
    }
}
