/** What the document says of all calls together: refusals, faults, sets, presses, the last of 512 calls. */
final class EdgeTermsTest {
    private static final Check CHECK = new Check("EdgeTermsTest");

    public static void main(String[] args) {
        constants();
        refusalsByNumber();
        faultsByNumber();
        setsAsBits();
        eachLampThatItIsWiredTo();
        oneForEachLamp();
        lastOf512Calls();
        CHECK.end();
    }

    private static void constants() {
        CHECK.says("UNKNOWN = -1, OUTSIDE = -2, STATE = -3, FULL = -4, NONE = -9;");
        CHECK.due("UNKNOWN", LampSwitches.UNKNOWN, -1);
        CHECK.due("OUTSIDE", LampSwitches.OUTSIDE, -2);
        CHECK.due("STATE", LampSwitches.STATE, -3);
        CHECK.due("FULL", LampSwitches.FULL, -4);
        CHECK.says("NONE is -9.");
        CHECK.due("NONE", LampSwitches.NONE, -9);
        CHECK.due("NONE of a lamp that can't be turned alone", Check.withHall("l2;p10").alone(0), -9);
        CHECK.says("LOST = Long.MIN_VALUE;");
        CHECK.due("LOST", LampSwitches.LOST, Long.MIN_VALUE);
    }

    private static void refusalsByNumber() {
        CHECK.says("UNKNOWN (there is no such LAMP, SWITCH, SHEET, place of a row), OUTSIDE (another number is not as "
            + "told), STATE (as told), FULL");
        LampSwitches none = new LampSwitches();
        LampSwitches x = Check.withHall("l23;p111");
        CHECK.due("no such lamp", x.ofLamp(2, 0), -1);
        CHECK.due("no such switch", x.ofSwitch(1, 0), -1);
        CHECK.due("no such sheet", x.lose(4), -1);
        CHECK.due("no such sheet of a call that names faults", x.put(4, 0, 0), -1);
        CHECK.due("another number", x.many(5), -2);
        CHECK.due("another number of a lamp", x.shade(1, 3), -2);
        CHECK.due("there is no hall", none.halls(), -3);
        CHECK.due("there is no hall, of a call that names faults", none.fewest(0, 0, 0, 0), -3);
        for (int number = 0; number < 8; number++) {
            x.reading(0, 0, 1);
        }
        CHECK.due("no more than 8 readings", x.reading(0, 0, 1), -4);
        CHECK.due("fault() of refusals", x.fault() + none.fault(), 0);
    }

    private static void faultsByNumber() {
        CHECK.says("1 NULL (there is nothing), 2 CAST (it is of another lane, kind), 3 INDEX");
        LampSwitches x = Check.withHall("l2;p11");
        CHECK.due("nothing", x.put(1, 0, 0), -11);
        CHECK.due("fault()", x.fault(), 1);
        CHECK.due("of another lane", x.hall(0, Check.INTS, 0, 6), -12);
        CHECK.due("fault()", x.fault(), 2);
        x.fewest(0, Check.BYTES, 5, 0);
        CHECK.due("of another kind", x.as(0, 2), -12);
        CHECK.due("fault()", x.fault(), 2);
        CHECK.due("a cell that is not there", x.put(0, 6, 0), -13);
        CHECK.due("fault()", x.fault(), 3);
        CHECK.says("4 SIZE (a length below 0)");
        CHECK.due("a length below 0", x.sheet(1, 0, -1), -14);
        CHECK.due("fault()", x.fault(), 4);
        CHECK.due("of a text", x.hall(0, 0, 0, -1), -14);
        CHECK.due("fault()", x.fault(), 4);
    }

    private static void setsAsBits() {
        CHECK.says("Sets are told as bits (bit k for number k).");
        LampSwitches own = Check.withHall("l22222;p100010;p110000;p100001;p101000;p100100");
        int[] lampOf = {3, 0, 4, 1, 2};
        for (int s = 0; s < 5; s++) {
            CHECK.due("lamps of switch " + s, own.ofSwitch(s, 3), 1 << lampOf[s]);
            CHECK.due("switches to lamp " + lampOf[s], own.ofLamp(lampOf[s], 2), 1 << s);
        }
        for (int k = 0; k < 5; k++) {
            // Each is the only one to its lamp but k, which is wired to none.
            StringBuilder text = new StringBuilder("l22222");
            for (int s = 0; s < 5; s++) {
                text.append(";p1");
                for (int l = 0; l < 5; l++) {
                    text.append(l == s && s != k ? 1 : 0);
                }
            }
            CHECK.due("only switch " + k + " can be done without", Check.withHall(text.toString()).spare(), 1 << k);
        }
        for (int turn = 1; turn <= 4; turn++) {
            LampSwitches x = Check.withHall("l5;p11");
            x.reading(0, 0, turn);
            CHECK.due("turnings", x.turnings(0), 1 << turn);
        }
        for (int kind = 0; kind <= 2; kind++) {
            LampSwitches x = Check.withHall("l5;p31");
            x.reading(0, 0, new int[] {3, 4, 1}[kind]);
            CHECK.due("kinds", x.kinds(0), 1 << kind);
        }
        for (int shades = 2; shades <= 5; shades++) {
            CHECK.due("shadings", shadingsOf(shades), 1 << shades);
        }
    }

    /** What is left of shades 2 to 5 when readings by presses of 3, of 4, of 5 and of 8 are so. */
    private static int shadingsOf(int shades) {
        LampSwitches x = Check.withHall("l" + shades + ";p31;p41;b41;d41");
        int[] moves = {3, 4, 5, 8};
        for (int s = 0; s < 4; s++) {
            x.reading(s, 0, moves[s] % shades);
        }
        return x.shadings(0);
    }

    private static void eachLampThatItIsWiredTo() {
        CHECK.says("A SWITCH PRESSED: each LAMP that it is wired to is MOVES SHADES on");
        for (int set = 0; set < 32; set++) {
            StringBuilder text = new StringBuilder("l55555;b1");
            int[] shades = new int[5];
            for (int l = 0; l < 5; l++) {
                text.append(set >> l & 1);
                shades[l] = 2 * (set >> l & 1);
            }
            LampSwitches x = Check.withHall(text.toString());
            CHECK.due("dark by " + text, x.press(0, 1), 5 - Integer.bitCount(set));
            CHECK.dueShades("by " + text, x, shades);
        }
    }

    private static void oneForEachLamp() {
        CHECK.says("A row of SHADES, one for each LAMP, is a HALL told.");
        for (int l = 0; l < 4; l++) {
            LampSwitches x = Check.withHall("l2345;p11000;p10100;p10010;p10001");
            int[] told = new int[4];
            told[l] = l + 1;
            Check.write(x, 1, Check.INTS, told);
            CHECK.due("lamp " + l + " to its last shade", x.fewest(1, Check.INTS, 0, -1), l + 1);
            CHECK.due("by its switch", x.fewest(1, Check.INTS, 0, 0), l);
            CHECK.due("and by it alone", x.fewest(1, Check.INTS, 0, l), l);
        }
    }

    private static void lastOf512Calls() {
        CHECK.says("An object is used for at most 512 calls after it has been made");
        LampSwitches x = Check.withHall("l5;p11");
        // 8 calls have been made: a sheet, 6 cells, a hall.
        for (int call = 9; call < 512; call++) {
            CHECK.due("call " + call, x.press(0, 1), (call - 8) % 5 == 0 ? 1 : 0);
        }
        CHECK.due("call 512", x.many(3), 503);
    }
}
