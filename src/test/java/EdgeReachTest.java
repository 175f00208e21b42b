/** The edges that the document names of what can be come to: Terms 3, promises 10 to 14. */
final class EdgeReachTest {
    private static final Check CHECK = new Check("EdgeReachTest");
    private static final int NULL = Check.NULL, CAST = Check.CAST, INDEX = Check.INDEX;
    private static final int UNKNOWN = Check.UNKNOWN, OUTSIDE = Check.OUTSIDE, STATE = Check.STATE, NONE = Check.NONE;
    private static final int LEAST = Check.LEAST, MOST = Check.MOST;
    private static final String LARGEST = "l55555;p110000;p101000;p100100;p100010;p100001";
    /** Comes round behind 60 presses. */
    private static final String ROUND = "l2345;p11111";

    public static void main(String[] args) {
        fewestToAHallTold();
        firstOfSeveralRows();
        placesOfARow();
        neverSo();
        cellsOfAHallTold();
        shadesOfAHallTold();
        fewestRefused();
        askingChangesNothing();
        halls();
        alone();
        idle();
        spare();
        withoutAHall();
        behindEachChange();
        CHECK.end();
    }

    private static int fewest(LampSwitches x, int k, int... told) {
        Check.write(x, 1, Check.INTS, told);
        return x.fewest(1, Check.INTS, 0, k);
    }

    private static void fewestToAHallTold() {
        CHECK.says("the fewest SWITCHES PRESSED, one behind another, from how all is now, by which it is so");
        LampSwitches x = Check.withHall("l5;p11;p21");
        int[] fromDark = {0, 1, 1, 2, 2};
        for (int now = 0; now < 5; now++) {
            x.shade(0, now);
            for (int told = 0; told < 5; told++) {
                CHECK.due("from " + now + " to " + told, fewest(x, -1, told), fromDark[(told + 5 - now) % 5]);
            }
        }
        CHECK.due("smallest hall, as it is", fewest(Check.withHall("l2;p11"), -1, 0), 0);
        CHECK.due("smallest hall", fewest(Check.withHall("l2;p11"), -1, 1), 1);
        CHECK.due("largest hall", fewest(Check.withHall(LARGEST), -1, 4, 4, 4, 4, 4), 20);
        LampSwitches y = Check.withHall(LARGEST);
        for (int l = 0; l < 5; l++) {
            y.shade(l, 4);
        }
        CHECK.due("largest hall, from its last shades on", fewest(y, -1, 0, 0, 0, 0, 0), 5);
    }

    private static void dueRow(String text, int[] told, int... row) {
        LampSwitches x = Check.withHall(text);
        CHECK.due("how many of " + text, fewest(x, -1, told), row.length);
        for (int k = 0; k < row.length; k++) {
            CHECK.due("place " + k + " of " + text, fewest(x, k, told), row[k]);
        }
        CHECK.due("place behind the last of " + text, fewest(x, row.length, told), NONE);
    }

    private static void firstOfSeveralRows() {
        CHECK.says("of several rows of SWITCHES the first");
        dueRow("l5;p11;p11;p11", new int[] {2}, 0, 0);
        // 4 is 1 and 3, 3 and 1, 2 and 2.
        dueRow("l5;p31;p21;p11", new int[] {4}, 0, 2);
        dueRow("l5;p21;p31;p11", new int[] {4}, 0, 0);
        // In any order: the lowest numbers ahead.
        dueRow("l333;p1001;p1010;p1100", new int[] {2, 1, 1}, 0, 1, 2, 2);
        // Only by the last two.
        dueRow("l22;p110;p110;p110;p101;p101", new int[] {0, 1}, 3);
        // 0 alone would need 3 presses, of 1 and 2 two are enough.
        dueRow("l5;p11;p21;p21", new int[] {3}, 0, 1);
        dueRow("l4;d11;p11;p31", new int[] {1}, 1);
        dueRow("l4;d11;p11;p31", new int[] {3}, 2);
    }

    private static void placesOfARow() {
        CHECK.says("how many (k -1), the SWITCH PRESSED in place k (0 .. 99) of the row; NONE: there are not so many");
        LampSwitches x = Check.withHall(ROUND);
        CHECK.due("how many", fewest(x, -1, 1, 2, 3, 4), 59);
        CHECK.due("place 0", fewest(x, 0, 1, 2, 3, 4), 0);
        CHECK.due("place 58", fewest(x, 58, 1, 2, 3, 4), 0);
        CHECK.due("place 59", fewest(x, 59, 1, 2, 3, 4), NONE);
        CHECK.due("place 99", fewest(x, 99, 1, 2, 3, 4), NONE);
        CHECK.due("place 100", fewest(x, 100, 1, 2, 3, 4), OUTSIDE);
        CHECK.due("place -2", fewest(x, -2, 1, 2, 3, 4), OUTSIDE);
        CHECK.due("as it is: how many", fewest(x, -1, 0, 0, 0, 0), 0);
        CHECK.due("as it is: place 0", fewest(x, 0, 0, 0, 0, 0), NONE);
        CHECK.due("as it is: place 99", fewest(x, 99, 0, 0, 0, 0), NONE);
        LampSwitches y = Check.withHall("l55555;p110000;p101000;p100100;p100010;p100001");
        for (int k = 0; k < 21; k++) {
            CHECK.due("largest hall, place " + k, fewest(y, k, 4, 4, 4, 4, 4), k < 20 ? k / 4 : NONE);
        }
    }

    private static void neverSo() {
        CHECK.says("NONE: there are not so many, it never is so.");
        LampSwitches x = Check.withHall("l42;d101;b310;p400");
        for (int k : new int[] {-1, 0, 99}) {
            CHECK.due("never, place " + k, fewest(x, k, 1, 0), NONE);
            CHECK.due("outside all the same, place 100", fewest(x, 100, 1, 0), OUTSIDE);
        }
        LampSwitches y = Check.withHall("l55;p100");
        CHECK.due("no wires, as it is", fewest(y, -1, 0, 0), 0);
        CHECK.due("no wires", fewest(y, -1, 0, 1), NONE);
        y.shade(0, 3);
        CHECK.due("no wires, dark again", fewest(y, -1, 0, 0), NONE);
    }

    private static void cellsOfAHallTold() {
        CHECK.says("FEWEST to a HALL told by as many cells of a SHEET from i on as there are LAMPS");
        for (int lane = 0; lane < 3; lane++) {
            LampSwitches x = Check.withHall("l345;p1110;p1001");
            x.sheet(2, lane, 60);
            for (int i = 0; i < 57; i++) {
                x.put(2, i, 9);
            }
            x.put(2, 57, 1);
            x.put(2, 58, 1);
            x.put(2, 59, 2);
            CHECK.dueWithFault("the last three", x, x.fewest(2, lane, 57, -1), 3);
            CHECK.dueWithFault("place 2", x, x.fewest(2, lane, 57, 2), 1);
            for (int i : new int[] {58, 59, 60, 61, -1, LEAST, MOST, MOST - 2}) {
                CHECK.dueWithFault("from " + i + " on", x, x.fewest(2, lane, i, -1), INDEX);
            }
            x.copy(2, 57, 2, 0, 3);
            CHECK.dueWithFault("the first three", x, x.fewest(2, lane, 0, -1), 3);
            CHECK.dueWithFault("one of others with them", x, x.fewest(2, lane, 1, -1), OUTSIDE);
        }
        LampSwitches y = Check.withHall(LARGEST);
        for (int cells = 3; cells <= 6; cells++) {
            y.sheet(1, Check.SHORTS, cells);
            CHECK.dueWithFault("five lamps of " + cells, y, y.fewest(1, Check.SHORTS, 0, -1), cells < 5 ? INDEX : 0);
        }
        LampSwitches z = Check.withHall("l2;p11");
        z.sheet(1, Check.BYTES, 0);
        CHECK.dueWithFault("a row of none", z, z.fewest(1, Check.BYTES, 0, -1), INDEX);
        z.sheet(1, Check.BYTES, 1);
        CHECK.dueWithFault("a row of one", z, z.fewest(1, Check.BYTES, 0, -1), 0);
    }

    private static void shadesOfAHallTold() {
        CHECK.says("FAULTS CAST, NULL, INDEX; OUTSIDE: a LAMP has no such SHADE.");
        for (int shades = 2; shades <= 5; shades++) {
            for (int l = 0; l < 3; l++) {
                LampSwitches x = Check.withHall("l" + ("" + shades).repeat(3) + ";p1100;p1010;p1001");
                int[] told = new int[3];
                int[] tries = {0, shades - 1, shades, -1, LEAST, MOST, shades + 256};
                for (int at = 0; at < tries.length; at++) {
                    told[l] = tries[at];
                    int want = at == 0 ? 0 : at == 1 ? shades - 1 : OUTSIDE;
                    CHECK.dueWithFault("shade " + tries[at] + " of " + shades, x, fewest(x, -1, told), want);
                    CHECK.dueWithFault("and place 99", x, fewest(x, 99, told), at < 2 ? NONE : OUTSIDE);
                }
            }
        }
        LampSwitches y = Check.withHall("l2;p11");
        Check.write(y, 1, Check.BYTES, 257);
        CHECK.due("cut to a byte", y.fewest(1, Check.BYTES, 0, -1), 1);
    }

    private static void fewestRefused() {
        CHECK.says("STATE: there is no HALL; UNKNOWN: SHEET; OUTSIDE: lane, k; FAULTS CAST, NULL, INDEX; "
            + "OUTSIDE: a LAMP has no such SHADE.");
        LampSwitches x = new LampSwitches();
        CHECK.dueWithFault("no hall, and all else", x, x.fewest(4, 3, -1, 100), STATE);
        CHECK.dueWithFault("no hall, nothing", x, x.fewest(0, 0, 0, -1), STATE);
        Check.take(x, "l2;p11");
        Check.write(x, 1, Check.SHORTS, 2, 0);
        for (int k : new int[] {-1, 4, LEAST, MOST}) {
            CHECK.dueWithFault("sheet " + k, x, x.fewest(k, 3, -1, 100), UNKNOWN);
        }
        for (int lane : new int[] {-1, 3, LEAST, MOST}) {
            CHECK.dueWithFault("lane " + lane + " of nothing", x, x.fewest(3, lane, -1, 0), OUTSIDE);
            CHECK.dueWithFault("lane " + lane, x, x.fewest(1, lane, 1, 0), OUTSIDE);
        }
        for (int k : new int[] {-2, 100, LEAST, MOST}) {
            CHECK.dueWithFault("k " + k + " of nothing", x, x.fewest(3, 0, -1, k), OUTSIDE);
            CHECK.dueWithFault("k " + k + " of another lane", x, x.fewest(1, 0, -1, k), OUTSIDE);
            CHECK.dueWithFault("k " + k, x, x.fewest(1, Check.SHORTS, 1, k), OUTSIDE);
        }
        for (int lane = 0; lane < 3; lane++) {
            CHECK.dueWithFault("nothing as lane " + lane, x, x.fewest(3, lane, -1, 99), NULL);
            int want = lane == Check.SHORTS ? INDEX : CAST;
            CHECK.dueWithFault("shorts as lane " + lane, x, x.fewest(1, lane, -1, 99), want);
        }
        CHECK.dueWithFault("no such shade", x, x.fewest(1, Check.SHORTS, 0, 99), OUTSIDE);
        CHECK.dueWithFault("such a shade", x, x.fewest(1, Check.SHORTS, 1, 99), NONE);
    }

    /** At 1, 1, 4; the switches turn by 1 1 0, 0 0 3, 0 0 2. */
    private static LampSwitches atWork() {
        LampSwitches x = Check.withHall("l235;p1110;b2011;d1101");
        x.press(0, 7);
        x.shade(2, 4);
        x.reading(2, 1, 0);
        x.feel(0);
        Check.write(x, 1, Check.INTS, 1, 2, 3);
        return x;
    }

    private static void askingChangesNothing() {
        CHECK.says("from how all is now, by which it is so");
        CHECK.dueUnchanged("fewest, how many", EdgeReachTest::atWork, x -> x.fewest(1, Check.INTS, 0, -1), 6, 0);
        CHECK.dueUnchanged("fewest, place 3", EdgeReachTest::atWork, x -> x.fewest(1, Check.INTS, 0, 3), 0, 0);
        CHECK.dueUnchanged("fewest, place 5", EdgeReachTest::atWork, x -> x.fewest(1, Check.INTS, 0, 5), 2, 0);
        CHECK.dueUnchanged("fewest, place 6", EdgeReachTest::atWork, x -> x.fewest(1, Check.INTS, 0, 6), NONE, 0);
        CHECK.dueUnchanged("halls", EdgeReachTest::atWork, LampSwitches::halls, 30, 0);
        CHECK.dueUnchanged("alone", EdgeReachTest::atWork, x -> x.alone(1), 4, 0);
        CHECK.dueUnchanged("idle", EdgeReachTest::atWork, LampSwitches::idle, 2, 0);
        CHECK.dueUnchanged("spare", EdgeReachTest::atWork, LampSwitches::spare, 6, 0);
    }

    private static void halls() {
        CHECK.says("HALLS: how many there are that all can become by SWITCHES (how all is now, too).");
        CHECK.due("smallest hall", Check.withHall("l2;p11").halls(), 2);
        CHECK.due("no wires", Check.withHall("l55555;p400000;b100000").halls(), 1);
        CHECK.due("wired, but round at once", Check.withHall("l25;d111").halls(), 5);
        CHECK.due("round at once alone", Check.withHall("l2;d11").halls(), 1);
        CHECK.due("largest hall", Check.withHall(LARGEST).halls(), 3125);
        CHECK.due("60 by one switch", Check.withHall(ROUND).halls(), 60);
        LampSwitches x = Check.withHall("l55;p110");
        x.shade(1, 3);
        x.shade(0, 4);
        CHECK.due("from elsewhere", x.halls(), 5);
    }

    private static void alone() {
        CHECK.says("ALONE of a LAMP: the fewest SWITCHES PRESSED by which it is one SHADE on, all others as they are; "
            + "NONE: by none.");
        CHECK.due("smallest hall", Check.withHall("l2;p11").alone(0), 1);
        LampSwitches x = Check.withHall("l35;p111");
        for (int first = 0; first < 3; first++) {
            for (int second = 0; second < 5; second++) {
                x.shade(0, first);
                x.shade(1, second);
                // 10 is 1 of 3 and 0 of 5; 6 is 0 of 3 and 1 of 5.
                CHECK.due("alone(0) from " + first, x.alone(0), 10);
                CHECK.due("alone(1) from " + second, x.alone(1), 6);
            }
        }
        CHECK.due("by none", Check.withHall("l22;p111").alone(1), NONE);
        CHECK.due("by none, no wires", Check.withHall("l2;p10").alone(0), NONE);
        CHECK.due("by none, two at a time", Check.withHall("l4;d11").alone(0), NONE);
        CHECK.due("by two that go too far", Check.withHall("l3;p21").alone(0), 2);
        CHECK.due("last of five lamps", Check.withHall(LARGEST).alone(4), 1);
        CHECK.says("ALONE; NONE. UNKNOWN.");
        CHECK.due("lamp -1", x.alone(-1), UNKNOWN);
        CHECK.due("lamp 2 of 2", x.alone(2), UNKNOWN);
        CHECK.due("lamp 5 of 5", Check.withHall(LARGEST).alone(5), UNKNOWN);
        CHECK.due("lamp least", x.alone(LEAST), UNKNOWN);
        CHECK.due("lamp most", x.alone(MOST), UNKNOWN);
        CHECK.due("no hall", new LampSwitches().alone(0), UNKNOWN);
    }

    private static void idle() {
        CHECK.says("IDLE: the fewest SWITCHES PRESSED, one at least, by which all is as it is.");
        CHECK.due("smallest hall", Check.withHall("l2;p11").idle(), 2);
        CHECK.due("one that is not wired", Check.withHall("l5;p11;p10").idle(), 1);
        CHECK.due("the first is not wired, another needs one more", Check.withHall("l2;p10;p11").idle(), 1);
        CHECK.due("the last is not wired, another needs one more", Check.withHall("l2;p11;p10").idle(), 1);
        CHECK.due("one that comes round at once", Check.withHall("l35;p111;d310;p201").idle(), 1);
        CHECK.due("by one switch, 60 times", Check.withHall(ROUND).idle(), 60);
        CHECK.due("by two", Check.withHall("l5;p21;p31").idle(), 2);
        CHECK.due("by three", Check.withHall("l5;p11;p31").idle(), 3);
        CHECK.due("largest hall", Check.withHall(LARGEST).idle(), 5);
        LampSwitches x = Check.withHall("l34;p111");
        for (int shade = 0; shade < 3; shade++) {
            x.shade(0, shade);
            CHECK.due("from " + shade, x.idle(), 12);
        }
    }

    private static void spare() {
        CHECK.says("SPARE: SWITCHES without each of which, the others there, HALLS are as many, as a set.");
        CHECK.due("smallest hall", Check.withHall("l2;p11").spare(), 0);
        CHECK.due("one that is not wired", Check.withHall("l2;p10").spare(), 1);
        CHECK.due("all five alike", Check.withHall("l2" + ";p11".repeat(5)).spare(), 31);
        CHECK.due("none of five", Check.withHall(LARGEST).spare(), 0);
        CHECK.due("the last of five", Check.withHall("l2222;p11000;p10100;p10010;p10001;p10000").spare(), 16);
        CHECK.due("each, but not all", Check.withHall("l22;p110;p101;p111").spare(), 7);
        CHECK.due("half of another's", Check.withHall("l4;p11;d11").spare(), 2);
        CHECK.due("only the others there", Check.withHall("l5;p11;p10;p10").spare(), 6);
        LampSwitches x = Check.withHall("l4;p11;d11");
        x.shade(0, 3);
        CHECK.due("from elsewhere", x.spare(), 2);
    }

    private static void withoutAHall() {
        CHECK.says("STATE: there is no HALL.");
        LampSwitches x = new LampSwitches();
        CHECK.due("halls", x.halls(), STATE);
        CHECK.due("idle", x.idle(), STATE);
        CHECK.due("spare", x.spare(), STATE);
        Check.take(x, "l2");
        CHECK.due("behind a text that is none", x.halls(), STATE);
        CHECK.due("behind a text that is none", x.idle(), STATE);
        CHECK.due("behind a text that is none", x.spare(), STATE);
    }

    private static void behindEachChange() {
        CHECK.says("from how all is now");
        LampSwitches x = Check.withHall("l45;d110;p101");
        CHECK.due("halls", x.halls(), 10);
        CHECK.due("alone", x.alone(1), 1);
        x.turn(1, 4);
        CHECK.due("alone behind turn()", x.alone(1), 4);
        CHECK.due("idle behind turn()", x.idle(), 2);
        x.wire(1, 1);
        CHECK.due("alone behind wire()", x.alone(1), NONE);
        CHECK.due("halls behind wire()", x.halls(), 2);
        x.wire(1, 0);
        CHECK.due("spare behind wire()", x.spare(), 2);
        CHECK.due("idle behind wire()", x.idle(), 1);
        x.wire(1, 1);
        CHECK.due("alone behind wire() again", x.alone(1), 4);
        x.press(1, 1);
        CHECK.due("fewest behind press()", fewest(x, -1, 0, 0), 4);
        x.shade(1, 0);
        CHECK.due("fewest behind shade()", fewest(x, -1, 0, 0), 0);
        Check.take(x, "l55;p111;p410");
        CHECK.due("halls behind hall()", x.halls(), 25);
        CHECK.due("alone behind hall()", x.alone(1), 2);
        Check.take(x, "l55;p111");
        CHECK.due("halls of fewer switches", x.halls(), 5);
        CHECK.due("alone of fewer switches", x.alone(1), NONE);
    }
}
