import java.util.LinkedHashMap;
import java.util.Map;
import java.util.function.ToLongFunction;

/** What each call that is taken changes, and that all else stays as it was: promises 2 to 31. */
final class EdgeChangeTest {
    private static final Check CHECK = new Check("EdgeChangeTest");
    private static final int BYTES = Check.BYTES, SHORTS = Check.SHORTS, INTS = Check.INTS, NONE = Check.NONE;
    /** The fault that stands ahead of each call. */
    private static final int STANDS = 1;
    private static final String GONE = "-";

    public static void main(String[] args) {
        CHECK.says("Nothing is promised beyond the answers and state changes described above");
        theHall();
        presses();
        whatCanBeComeTo();
        whatTurned();
        sheets();
        parts();
        CHECK.end();
    }

    /**
     * Lamps of 2, 3 and 5 shades at 1, 0 and 2; switches that turn lamps 0 and 1 by 1, lamps 1 and 2 by 3, lamps
     * 0 and 2 by 2; two readings that are so; TRACE not 0; bytes, ints, shorts, nothing in sheets 0 to 3.
     */
    private static LampSwitches atWork() {
        LampSwitches x = Check.withHall("l235;p1110;b2011;d1101");
        x.press(0, 5);
        x.press(1, 2);
        x.shade(1, 0);
        x.shade(2, 2);
        x.reading(0, 0, 1);
        x.reading(2, 2, 2);
        x.tell(2);
        Check.write(x, 1, INTS, 0, 1, 3, 12, 1, 9);
        Check.write(x, 2, SHORTS, 7, 8);
        x.put(3, 0, 0);
        return x;
    }

    /** A call that names no FAULTS: fault() stays. Changes are told as "name=number" in turn. */
    private static void taken(String call, ToLongFunction<LampSwitches> asked, long want, String... changes) {
        changed(call, asked, want, STANDS, changes);
    }

    /** A call that names FAULTS and comes to none: fault() becomes 0. */
    private static void takenOfFaults(String call, ToLongFunction<LampSwitches> asked, long want, String... changes) {
        changed(call, asked, want, 0, changes);
    }

    private static void changed(String call, ToLongFunction<LampSwitches> asked, long want, int fault,
            String... changes) {
        LampSwitches x = atWork();
        CHECK.due(call, asked.applyAsLong(x), want);
        CHECK.due("fault() behind " + call, x.fault(), fault);
        Map<String, Long> due = new LinkedHashMap<>(Seen.stateOf(atWork()));
        for (String change : changes) {
            String[] parts = change.split("=");
            if (parts[1].equals(GONE)) {
                due.remove(parts[0]);
            } else {
                due.put(parts[0], Long.valueOf(parts[1]));
            }
        }
        Map<String, Long> got = Seen.stateOf(x);
        CHECK.due(call + " left " + got + ", due is " + due, got.equals(due) ? 1 : 0, 1);
    }

    private static void theHall() {
        // The first 16 codes: the same without the last switch.
        takenOfFaults("hall(0, 0, 0, 16)", x -> x.hall(0, BYTES, 0, 16), 2, "switches=2", "dark=3", "pressed=0",
            "readings=0", "shade 0=0", "shade 2=0", "pressed 0=0", "pressed 1=0", "turnings 0=30", "kinds 0=7",
            "shadings 0=60", "shadings 2=60", "kind 2=-", "turn 2=-", "moves 2=-", "wires 2=-", "pressed 2=-",
            "turnings 2=-", "kinds 2=-");
        for (int what = 0; what <= 2; what++) {
            int asked = what;
            taken("ofLamp(2, " + what + ")", x -> x.ofLamp(2, asked), new int[] {5, 2, 6}[what]);
        }
        for (int what = 0; what <= 4; what++) {
            int asked = what;
            taken("ofSwitch(1, " + what + ")", x -> x.ofSwitch(1, asked), new int[] {1, 2, 3, 6, 2}[what]);
        }
        taken("shade(1, 2)", x -> x.shade(1, 2), 0, "shade 1=2", "dark=0");
        taken("shade(2, 0)", x -> x.shade(2, 0), 2, "shade 2=0", "dark=2");
        taken("shade(0, 1), as it is", x -> x.shade(0, 1), 1);
        taken("turn(1, 4)", x -> x.turn(1, 4), 2, "turn 1=4", "moves 1=5");
        taken("turn(2, 1), as it is", x -> x.turn(2, 1), 1);
        taken("wire(1, 0)", x -> x.wire(1, 0), 1, "wires 1=7");
        taken("wire(1, 2)", x -> x.wire(1, 2), 0, "wires 1=2");
    }

    private static void presses() {
        taken("press(2, 3)", x -> x.press(2, 3), 1, "shade 2=3", "pressed 2=3", "pressed=10");
        taken("press(0, 99)", x -> x.press(0, 99), 2, "shade 0=0", "dark=2", "pressed 0=104", "pressed=106");
        // Switch 0 once, lamp 2 of shade 3, switch 1 nine times: 0 1 2, 0 1 3, 0 1 0.
        int[] whats = {0, 1, 2, 3, 4, 10, 11, 12, 13, 14};
        int[] want = {2, NONE, 1, 10, 0, 0, 1, 0, NONE, NONE};
        for (int at = 0; at < whats.length; at++) {
            int what = whats[at];
            takenOfFaults("day, what " + what, x -> x.day(1, INTS, 0, 3, what), want[at]);
        }
    }

    private static void whatCanBeComeTo() {
        // To 0, 1, 3: by switch 0 once, and by switch 1 twice (by switch 2 it would be three times).
        int[] row = {0, 1, 1, NONE};
        takenOfFaults("fewest, how many", x -> x.fewest(1, INTS, 0, -1), 3);
        for (int k = 0; k < row.length; k++) {
            int place = k;
            takenOfFaults("fewest, place " + k, x -> x.fewest(1, INTS, 0, place), row[k]);
        }
        taken("halls()", LampSwitches::halls, 30);
        taken("alone(0)", x -> x.alone(0), 3);
        taken("idle()", LampSwitches::idle, 2);
        taken("spare()", LampSwitches::spare, 6);
    }

    private static void whatTurned() {
        taken("reading(1, 1, 0)", x -> x.reading(1, 1, 0), 2, "readings=3", "turnings 1=4", "kinds 1=2",
            "shadings 1=8");
        taken("back(1)", x -> x.back(1), 1, "readings=1", "turnings 2=30", "kinds 2=7", "shadings 2=60");
        taken("back(0)", x -> x.back(0), 2);
        taken("turnings(0)", x -> x.turnings(0), 0b01010);
        taken("kinds(2)", x -> x.kinds(2), 0b110);
        taken("shadings(2)", x -> x.shadings(2), 0b111000);
        taken("odds(2, 0)", x -> x.odds(2, 0), 0);
        // Of 81 rows those 4 of switch 0 three times and switch 1 once.
        taken("odds(4, 0)", x -> x.odds(4, 0), 4);
        taken("odds(4, 1)", x -> x.odds(4, 1), 81);
    }

    private static void sheets() {
        takenOfFaults("sheet(3, 1, 2)", x -> x.sheet(3, SHORTS, 2), 1, "lane 3=1", "cell 3 0=0", "cell 3 1=0");
        takenOfFaults("sheet(2, 0, 1)", x -> x.sheet(2, BYTES, 1), 1, "lane 2=0", "cell 2 0=0", "cell 2 1=-");
        takenOfFaults("sheet(2, 2, 0)", x -> x.sheet(2, INTS, 0), 1, "lane 2=2", "cell 2 0=-", "cell 2 1=-");
        taken("lose(2)", x -> x.lose(2), 1, "lane 2=-1", "cell 2 0=-", "cell 2 1=-");
        taken("lose(3)", x -> x.lose(3), 0);
        takenOfFaults("put(2, 1, 9)", x -> x.put(2, 1, 9), 1, "cell 2 1=9");
        takenOfFaults("put(0, 0, 300)", x -> x.put(0, 0, 300), 1, "cell 0 0=44");
        takenOfFaults("cell(1, 3, 2)", x -> x.cell(1, 3, INTS), 12);
        takenOfFaults("copy(1, 2, 1, 3, 2)", x -> x.copy(1, 2, 1, 3, 2), 2, "cell 1 3=3", "cell 1 4=12");
        takenOfFaults("copy(1, 6, 1, 0, 0)", x -> x.copy(1, 6, 1, 0, 0), 0);
    }

    private static void parts() {
        // 3, 2, 1 and 1 have been left: 91327.
        taken("tell(0)", x -> x.tell(0), 1, "trace=2831138");
        taken("tell(1)", x -> x.tell(1), 102, "trace=87765310");
        taken("feel(1)", x -> x.feel(1), 1, "trace=2831141");
        taken("feel(2)", x -> x.feel(2), 70, "trace=2831142");
        for (int kind = 0; kind <= 2; kind++) {
            int as = kind;
            takenOfFaults("as(2, " + kind + ")", x -> x.as(2, as), 1);
        }
        taken("trace()", LampSwitches::trace, 91327);
        taken("fault()", LampSwitches::fault, STANDS);
        for (int what = 0; what <= 4; what++) {
            int asked = what;
            taken("many(" + what + ")", x -> x.many(asked), new int[] {3, 3, 1, 7, 2}[what]);
        }
    }
}
