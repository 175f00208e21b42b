/** Promises 10 to 14: fewest, halls, alone, idle, spare. */
final class ReachTest {
    private static final Check CHECK = new Check("ReachTest");

    public static void main(String[] args) {
        fewest();
        fewestOfSeveralRows();
        longestRow();
        refusalsAndFaultsOfFewest();
        halls();
        alone();
        idle();
        spare();
        madeAnewBehindChanges();
        CHECK.end();
    }

    /** The row of fewest presses to a hall told; none given: it never is so. */
    private static void dueRow(LampSwitches x, String name, int[] hall, int... row) {
        Check.write(x, 1, Check.BYTES, hall);
        boolean never = row.length == 1 && row[0] == Check.NONE;
        int length = never ? Check.NONE : row.length;
        CHECK.dueWithFault("how many to " + name, x, x.fewest(1, Check.BYTES, 0, -1), length);
        for (int k = 0; k < 100; k++) {
            int want = k < length ? row[k] : Check.NONE;
            CHECK.dueWithFault("place " + k + " to " + name, x, x.fewest(1, Check.BYTES, 0, k), want);
        }
    }

    private static void fewest() {
        LampSwitches x = Check.withHall("l235;p1110;p1011");
        dueRow(x, "as it is", new int[] {0, 0, 0});
        dueRow(x, "one press", new int[] {0, 1, 1}, 1);
        dueRow(x, "two presses", new int[] {1, 2, 1}, 0, 1);
        x.press(1, 1);
        dueRow(x, "as it is", new int[] {0, 1, 1});
        dueRow(x, "one more", new int[] {1, 2, 1}, 0);
        dueRow(x, "dark again", new int[] {0, 0, 0}, 0, 0, 0, 0, 1, 1, 1, 1);
        CHECK.dueShades("behind fewest", x, 0, 1, 1);
        LampSwitches y = Check.withHall("l24;d101;p200");
        dueRow(y, "two shades on", new int[] {0, 2}, 0);
        dueRow(y, "one shade on", new int[] {0, 1}, Check.NONE);
        dueRow(y, "the other", new int[] {1, 0}, Check.NONE);
    }

    private static void fewestOfSeveralRows() {
        LampSwitches x = Check.withHall("l55;p210;p110;p101;p201");
        dueRow(x, "2 then 1", new int[] {3, 3}, 0, 1, 2, 3);
        dueRow(x, "4 by two", new int[] {4, 0}, 0, 0);
        // Both switches 0 and 1 do the same: 0 comes first.
        LampSwitches y = Check.withHall("l4;p11;p11");
        dueRow(y, "three", new int[] {3}, 0, 0, 0);
        // 1 by 3 and 3 (0, 0), by 2 and 4 (1, 2), by 4 and 2 (2, 1).
        LampSwitches z = Check.withHall("l5;p31;p21;p41");
        dueRow(z, "one", new int[] {1}, 0, 0);
        LampSwitches w = Check.withHall("l5;p11;p31;p41");
        dueRow(w, "two", new int[] {2}, 0, 0);
    }

    private static void longestRow() {
        LampSwitches x = Check.withHall("l2345;p11111");
        CHECK.due("halls", x.halls(), 60);
        int[] row = new int[59];
        dueRow(x, "behind 59", new int[] {1, 2, 3, 4}, row);
        CHECK.due("idle", x.idle(), 60);
    }

    private static void refusalsAndFaultsOfFewest() {
        LampSwitches x = new LampSwitches();
        CHECK.dueWithFault("no hall", x, x.fewest(9, 9, 9, 999), Check.STATE);
        Check.take(x, "l23;p111");
        CHECK.dueWithFault("sheet 4", x, x.fewest(4, 9, 0, -2), Check.UNKNOWN);
        CHECK.dueWithFault("sheet -1", x, x.fewest(-1, 0, 0, 0), Check.UNKNOWN);
        CHECK.dueWithFault("lane 3", x, x.fewest(1, 3, 0, 0), Check.OUTSIDE);
        CHECK.dueWithFault("lane -1", x, x.fewest(1, -1, 0, 0), Check.OUTSIDE);
        CHECK.dueWithFault("k -2", x, x.fewest(1, 0, 0, -2), Check.OUTSIDE);
        CHECK.dueWithFault("k 100", x, x.fewest(1, 0, 0, 100), Check.OUTSIDE);
        CHECK.dueWithFault("nothing", x, x.fewest(1, 0, -1, 0), Check.NULL);
        Check.write(x, 1, Check.SHORTS, 2, 1, 2, 3);
        CHECK.dueWithFault("other lane", x, x.fewest(1, 0, -1, 0), Check.CAST);
        CHECK.dueWithFault("ahead", x, x.fewest(1, 1, -1, 0), Check.INDEX);
        CHECK.dueWithFault("too far", x, x.fewest(1, 1, 3, 0), Check.INDEX);
        CHECK.dueWithFault("far too far", x, x.fewest(1, 1, Integer.MAX_VALUE, 0), Check.INDEX);
        CHECK.dueWithFault("no shade 2 of 0", x, x.fewest(1, 1, 0, -1), Check.OUTSIDE);
        CHECK.dueWithFault("no shade 3 of 1", x, x.fewest(1, 1, 2, -1), Check.OUTSIDE);
        CHECK.dueWithFault("from 1 on", x, x.fewest(1, 1, 1, -1), 5);
        x.put(1, 2, -1);
        CHECK.dueWithFault("below 0", x, x.fewest(1, 1, 1, -1), Check.OUTSIDE);
    }

    private static void halls() {
        CHECK.due("no hall", new LampSwitches().halls(), Check.STATE);
        CHECK.due("no wires", Check.withHall("l5;p40").halls(), 1);
        CHECK.due("all of it", Check.withHall("l5;p41").halls(), 5);
        CHECK.due("half of it", Check.withHall("l4;d11").halls(), 2);
        CHECK.due("all of 5 lamps",
            Check.withHall("l55555;p110000;p101000;p100100;p100010;p100001").halls(), 3125);
        LampSwitches x = Check.withHall("l22;p111");
        x.shade(0, 1);
        CHECK.due("from elsewhere", x.halls(), 2);
    }

    private static void alone() {
        LampSwitches x = Check.withHall("l235;p1110;p1011;p2001");
        CHECK.due("alone(0)", x.alone(0), 3);
        CHECK.due("alone(1)", x.alone(1), 3);
        CHECK.due("alone(2)", x.alone(2), 3);
        x.shade(2, 4);
        x.shade(0, 1);
        CHECK.due("from elsewhere", x.alone(2), 3);
        CHECK.due("alone(3)", x.alone(3), Check.UNKNOWN);
        for (int l : Check.NOWHERE) {
            CHECK.due("alone(" + l + ")", x.alone(l), Check.UNKNOWN);
        }
        LampSwitches y = Check.withHall("l22;p111");
        CHECK.due("never", y.alone(0), Check.NONE);
        CHECK.due("never", y.alone(1), Check.NONE);
        CHECK.due("no hall", new LampSwitches().alone(0), Check.UNKNOWN);
    }

    private static void idle() {
        CHECK.due("no hall", new LampSwitches().idle(), Check.STATE);
        CHECK.due("no wires", Check.withHall("l5;p40;p11").idle(), 1);
        CHECK.due("all round", Check.withHall("l2;d11").idle(), 1);
        CHECK.due("five", Check.withHall("l5;p11").idle(), 5);
        CHECK.due("one and four", Check.withHall("l5;p11;p41").idle(), 2);
        CHECK.due("one, one, three", Check.withHall("l5;p11;p31").idle(), 3);
        LampSwitches x = Check.withHall("l35;p111");
        x.press(0, 1);
        CHECK.due("fifteen", x.idle(), 15);
    }

    private static void spare() {
        CHECK.due("no hall", new LampSwitches().spare(), Check.STATE);
        CHECK.due("one that turns", Check.withHall("l5;p11").spare(), 0);
        CHECK.due("one that doesn't", Check.withHall("l5;p10").spare(), 1);
        CHECK.due("two alike", Check.withHall("l5;p11;p11").spare(), 0b11);
        CHECK.due("one for all", Check.withHall("l4;d11;p11").spare(), 0b01);
        CHECK.due("by others", Check.withHall("l22;p111;p110;p101").spare(), 0b111);
        CHECK.due("last of five", Check.withHall("l22;p111;p110;p100;p100;p200").spare(), 0b11100);
    }

    private static void madeAnewBehindChanges() {
        LampSwitches x = Check.withHall("l4;d11;p10");
        CHECK.due("halls", x.halls(), 2);
        CHECK.due("spare", x.spare(), 0b10);
        CHECK.due("halls behind spare", x.halls(), 2);
        CHECK.due("alone", x.alone(0), Check.NONE);
        x.wire(1, 0);
        CHECK.due("halls when wired", x.halls(), 4);
        CHECK.due("alone when wired", x.alone(0), 1);
        x.turn(1, 3);
        CHECK.due("alone when turned", x.alone(0), 2);
        CHECK.due("spare when turned", x.spare(), 0b01);
        x.kinds(0);
        x.turnings(0);
        x.shadings(0);
        CHECK.due("halls behind sets", x.halls(), 4);
        Check.take(x, "l5;p11;p21");
        CHECK.due("halls of another hall", x.halls(), 5);
    }
}
