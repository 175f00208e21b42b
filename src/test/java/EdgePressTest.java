import java.util.Arrays;

/** The edges that the document names of presses and days: Terms 2, promises 8 and 9. */
final class EdgePressTest {
    private static final Check CHECK = new Check("EdgePressTest");
    private static final int NULL = Check.NULL, CAST = Check.CAST, INDEX = Check.INDEX;
    private static final int UNKNOWN = Check.UNKNOWN, OUTSIDE = Check.OUTSIDE, STATE = Check.STATE, NONE = Check.NONE;
    private static final int LEAST = Check.LEAST, MOST = Check.MOST;
    private static final int[] WHATS = {0, 1, 2, 3, 4, 10, 11, 12, 13, 14};

    public static void main(String[] args) {
        press();
        pressRefused();
        actsByASwitch();
        actsByALamp();
        firstWrong();
        whatIsAskedOfADay();
        lampsOfADay();
        dayOfNothing();
        longestDay();
        dayFromNow();
        dayRefused();
        cellsOfADay();
        dayWithoutAHall();
        pairsRefused();
        CHECK.end();
    }

    private static void press() {
        CHECK.says("A SWITCH is PRESSED n times (1 .. 99): how many LAMPS are dark then.");
        LampSwitches x = Check.withHall("l23455;p111111;p111110;p100000");
        CHECK.due("once", x.press(0, 1), 0);
        CHECK.dueShades("once", x, 1, 1, 1, 1, 1);
        CHECK.due("59 times more", x.press(0, 59), 5);
        CHECK.dueShades("60 times", x, 0, 0, 0, 0, 0);
        CHECK.due("99 times", x.press(1, 99), 2);
        CHECK.dueShades("99 times", x, 1, 0, 3, 4, 0);
        CHECK.due("one that is not wired", x.press(2, 99), 2);
        CHECK.dueShades("by one that is not wired", x, 1, 0, 3, 4, 0);
        CHECK.due("pressed 0", x.ofSwitch(0, 4), 60);
        CHECK.due("pressed 1", x.ofSwitch(1, 4), 99);
        CHECK.due("pressed 2", x.ofSwitch(2, 4), 99);
        CHECK.due("pressed", x.many(3), 258);
        LampSwitches y = Check.withHall("l55555;d411111");
        for (int n = 1; n <= 400; n++) {
            y.press(0, 99);
        }
        // 99 times 8 is 2 of 5, 400 times.
        CHECK.dueShades("behind 400 calls", y, 0, 0, 0, 0, 0);
        CHECK.due("pressed in 400 calls", y.ofSwitch(0, 4), 39600);
        CHECK.due("in all", y.many(3), 39600);
    }

    private static void pressRefused() {
        CHECK.says("`int press(int s, int n)`");
        LampSwitches x = Check.withHall("l5;p11;b11");
        for (int n : new int[] {0, 100, -1, LEAST, MOST}) {
            CHECK.due("n " + n, x.press(0, n), OUTSIDE);
            CHECK.due("n " + n + " of no switch", x.press(2, n), UNKNOWN);
            CHECK.due("n " + n + " of switch -1", x.press(-1, n), UNKNOWN);
        }
        CHECK.due("switch 2 of 2", x.press(2, 1), UNKNOWN);
        CHECK.due("switch -1", x.press(-1, 99), UNKNOWN);
        CHECK.dueShades("refused", x, 0);
        CHECK.due("pressed", x.many(3), 0);
        CHECK.due("no hall", new LampSwitches().press(0, 1), UNKNOWN);
        LampSwitches y = Check.withHall("l2" + ";p11".repeat(5));
        CHECK.due("switch 4 of 5", y.press(4, 99), 0);
        CHECK.due("switch 5 of 5", y.press(5, 99), UNKNOWN);
    }

    /** One thing that is asked of a day, told by a row of ints in sheet 1. */
    private static int day(LampSwitches x, int what, int... pairs) {
        Check.write(x, 1, Check.INTS, pairs);
        return x.day(1, Check.INTS, 0, pairs.length / 2, what);
    }

    private static void actsByASwitch() {
        CHECK.says("a SWITCH and 0 .. 9: it is PRESSED so often");
        for (int often = 0; often <= 9; often++) {
            LampSwitches x = Check.withHall("l55;p110;b211");
            CHECK.due("switch 0, " + often, day(x, 10, 0, often), often % 5);
            CHECK.due("switch 1, " + often, day(x, 11, 1, often), 3 * often % 5);
            CHECK.due("presses", day(x, 3, 1, often, 0, 9), often + 9);
            CHECK.due("behind how many acts dark", day(x, 4, 1, often), often % 5 == 0 ? 1 : 0);
        }
    }

    private static void actsByALamp() {
        CHECK.says("a SHADE and 10 .. 14: the LAMP that is 10 less becomes of that SHADE");
        for (int l = 0; l < 5; l++) {
            for (int shade = 0; shade < 5; shade++) {
                LampSwitches x = Check.withHall("l55555;p111111");
                CHECK.due("shade " + shade + " of " + l, day(x, 10 + l, shade, 10 + l), shade);
                CHECK.due("all together", day(x, 2, shade, 10 + l), shade);
                CHECK.due("presses", day(x, 3, shade, 10 + l), 0);
                CHECK.due("and pressed", day(x, 10 + l, shade, 10 + l, 0, 1), (shade + 1) % 5);
            }
        }
    }

    private static void firstWrong() {
        CHECK.says("FIRST WRONG: the first act that can't be (there is no such LAMP, it has not so many SHADES).");
        for (int shades = 2; shades <= 5; shades++) {
            LampSwitches x = Check.withHall("l" + shades + ";p11");
            for (int shade = 0; shade < 5; shade++) {
                CHECK.due("shade " + shade + " of " + shades, day(x, 1, shade, 10), shade < shades ? NONE : 0);
            }
            for (int second = 11; second <= 14; second++) {
                CHECK.due("no lamp " + (second - 10), day(x, 1, 0, second), 0);
                CHECK.due("behind an act", day(x, 1, 0, 1, 0, second), 1);
            }
        }
        LampSwitches y = Check.withHall("l55555;p111111");
        CHECK.due("lamp 4 of 5", day(y, 1, 4, 14), NONE);
        LampSwitches z = Check.withHall("l2345;p11111");
        CHECK.due("the first of two", day(z, 1, 1, 10, 3, 11, 2, 10), 1);
        CHECK.due("lamp 4 of 4", day(z, 1, 0, 14), 0);
        CHECK.due("the last shade of each", day(z, 1, 1, 10, 2, 11, 3, 12, 4, 13), NONE);
        CHECK.due("one beyond of each", day(z, 1, 4, 12, 3, 11, 2, 10), 0);
    }

    private static void dueOfDay(LampSwitches x, int[] pairs, int... want) {
        Check.write(x, 2, Check.SHORTS, pairs);
        for (int at = 0; at < WHATS.length; at++) {
            int got = x.day(2, Check.SHORTS, 0, pairs.length / 2, WHATS[at]);
            CHECK.dueWithFault("what " + WHATS[at] + " of " + Arrays.toString(pairs), x, got, want[at]);
        }
    }

    private static void whatIsAskedOfADay() {
        CHECK.says("how many LAMPS are dark then (what 0), its FIRST WRONG (1; NONE), SHADES of all LAMPS together then (2), "
            + "how many SWITCHES are PRESSED in it (3; each time counts), behind how many of its acts all is dark (4)");
        LampSwitches x = Check.withHall("l55;p110;p101");
        dueOfDay(x, new int[] {0, 4, 1, 4}, 0, NONE, 8, 8, 0, 4, 4, NONE, NONE, NONE);
        dueOfDay(x, new int[] {0, 5, 1, 4}, 1, NONE, 4, 9, 1, 0, 4, NONE, NONE, NONE);
        dueOfDay(x, new int[] {0, 0, 0, 5, 0, 1, 0, 4, 4, 11}, 1, NONE, 4, 10, 3, 0, 4, NONE, NONE, NONE);
        CHECK.says("of one with a FIRST WRONG: -100 less that (but what 1)");
        int w = -101;
        dueOfDay(x, new int[] {0, 5, 0, 12, 0, 1}, w, 1, w, w, w, w, w, w, w, w);
    }

    private static void lampsOfADay() {
        CHECK.says("the SHADE of LAMP l then (10 and l; NONE: there is no such LAMP)");
        for (int lamps = 1; lamps <= 5; lamps++) {
            LampSwitches x = Check.withHall("l" + "5".repeat(lamps) + ";p1" + "1".repeat(lamps));
            for (int l = 0; l < 5; l++) {
                CHECK.due("lamp " + l + " of " + lamps, day(x, 10 + l, 0, 3), l < lamps ? 3 : NONE);
            }
        }
    }

    private static void dayOfNothing() {
        CHECK.says("n (0 .. 20)");
        LampSwitches x = Check.withHall("l23;p111");
        dueOfDay(x, new int[] {}, 2, NONE, 0, 0, 0, 0, 0, NONE, NONE, NONE);
        x.shade(1, 2);
        dueOfDay(x, new int[] {}, 1, NONE, 2, 0, 0, 0, 2, NONE, NONE, NONE);
        CHECK.dueWithFault("no pair of cells that are none", x, x.day(0, Check.BYTES, 0, 0, 0), 1);
        CHECK.dueWithFault("n -1", x, x.day(0, Check.BYTES, 0, -1, 0), OUTSIDE);
    }

    private static void longestDay() {
        CHECK.says("A DAY of n pairs, that are cells of a SHEET from i on (2 n)");
        LampSwitches x = Check.withHall("l55;p111");
        int[] cells = new int[60];
        Arrays.fill(cells, 99);
        for (int act = 0; act < 20; act++) {
            cells[20 + 2 * act] = 0;
            cells[21 + 2 * act] = 9;
        }
        Check.write(x, 1, Check.BYTES, cells);
        CHECK.dueWithFault("20 acts, the last 40 of 60 cells", x, x.day(1, Check.BYTES, 20, 20, 3), 180);
        CHECK.dueWithFault("behind every fifth", x, x.day(1, Check.BYTES, 20, 20, 4), 4);
        CHECK.dueWithFault("one cell on", x, x.day(1, Check.BYTES, 21, 20, 3), INDEX);
        CHECK.dueWithFault("21 acts", x, x.day(1, Check.BYTES, 18, 21, 3), OUTSIDE);
        x.copy(1, 20, 1, 0, 40);
        CHECK.dueWithFault("20 acts, the first 40 of 60 cells", x, x.day(1, Check.BYTES, 0, 20, 3), 180);
        CHECK.dueWithFault("the tenth on", x, x.day(1, Check.BYTES, 20, 10, 3), 90);
        x.put(1, 39, 14);
        CHECK.dueWithFault("the 20th is wrong", x, x.day(1, Check.BYTES, 0, 20, 1), 19);
        CHECK.dueWithFault("less it", x, x.day(1, Check.BYTES, 0, 20, 14), -119);
        CHECK.dueWithFault("19 acts", x, x.day(1, Check.BYTES, 0, 19, 1), NONE);
    }

    private static void dayFromNow() {
        CHECK.says("from how all is now (nothing is changed)");
        int[] want = {0, NONE, 4, 10, 2, 1, 1, 2, NONE, NONE};
        for (int at = 0; at < WHATS.length; at++) {
            int what = WHATS[at];
            CHECK.dueUnchanged("day, what " + what, EdgePressTest::atWork, x -> x.day(1, Check.INTS, 0, 6, what), want[at], 0);
        }
        LampSwitches x = atWork();
        CHECK.due("twice alike", x.day(1, Check.INTS, 0, 6, 2), 4);
        CHECK.due("twice alike", x.day(1, Check.INTS, 0, 6, 2), 4);
        x.shade(2, 1);
        CHECK.due("from elsewhere, to a told shade", x.day(1, Check.INTS, 0, 6, 2), 4);
        x.shade(0, 0);
        CHECK.due("from elsewhere", x.day(1, Check.INTS, 0, 6, 2), 3);
        CHECK.due("from elsewhere, never dark", x.day(1, Check.INTS, 0, 6, 4), 0);
    }

    /** At 1, 2, 0, and in sheet 1 a day by 0 1 0, 0 0 2, dark, dark, 0 0 2 to 1 1 2. */
    private static LampSwitches atWork() {
        LampSwitches x = Check.withHall("l333;p1110;p2011");
        x.press(1, 3);
        x.shade(0, 1);
        x.shade(1, 2);
        x.reading(0, 0, 1);
        x.tell(1);
        Check.write(x, 1, Check.INTS, 0, 2, 1, 1, 0, 12, 1, 0, 2, 12, 0, 7);
        return x;
    }

    private static void dayRefused() {
        CHECK.says("UNKNOWN: SHEET; OUTSIDE: lane, n (0 .. 20), what (0 .. 4, 10 .. 14); FAULTS CAST, NULL, INDEX");
        LampSwitches x = Check.withHall("l2;p11");
        x.sheet(1, Check.SHORTS, 2);
        for (int k : new int[] {-1, 4, LEAST, MOST}) {
            CHECK.dueWithFault("sheet " + k, x, x.day(k, 0, 0, 0, 0), UNKNOWN);
            CHECK.dueWithFault("sheet " + k + " and all else", x, x.day(k, 3, -1, 21, 5), UNKNOWN);
        }
        for (int lane : new int[] {-1, 3, LEAST, MOST}) {
            CHECK.dueWithFault("lane " + lane, x, x.day(1, lane, 0, 0, 0), OUTSIDE);
            CHECK.dueWithFault("lane " + lane + " of nothing", x, x.day(3, lane, -1, 0, 0), OUTSIDE);
        }
        for (int n : new int[] {-1, 21, LEAST, MOST, 1 << 30, 1 << 31}) {
            CHECK.dueWithFault("n " + n, x, x.day(1, Check.SHORTS, 0, n, 0), OUTSIDE);
            CHECK.dueWithFault("n " + n + " of nothing", x, x.day(3, 0, -1, n, 0), OUTSIDE);
        }
        for (int what : new int[] {-1, 5, 9, 15, LEAST, MOST}) {
            CHECK.dueWithFault("what " + what, x, x.day(1, Check.SHORTS, 0, 1, what), OUTSIDE);
            CHECK.dueWithFault("what " + what + " of nothing", x, x.day(3, 0, -1, 0, what), OUTSIDE);
            CHECK.dueWithFault("what " + what + " of another lane", x, x.day(1, 0, -1, 0, what), OUTSIDE);
        }
        for (int lane = 0; lane < 3; lane++) {
            CHECK.dueWithFault("nothing as lane " + lane, x, x.day(3, lane, -1, 20, 0), NULL);
            int want = lane == Check.SHORTS ? INDEX : CAST;
            CHECK.dueWithFault("shorts as lane " + lane, x, x.day(1, lane, -1, 20, 0), want);
        }
    }

    private static void cellsOfADay() {
        CHECK.says("INDEX (of cells from i on also where i is not 0 .. how many there are, if none of them is taken, too)");
        LampSwitches x = Check.withHall("l2;p11");
        x.sheet(1, Check.INTS, 40);
        CHECK.dueWithFault("all cells", x, x.day(1, Check.INTS, 0, 20, 4), 20);
        for (int i : new int[] {1, 39, 40, 41, -1, LEAST, MOST, MOST - 39}) {
            CHECK.dueWithFault("20 acts from " + i + " on", x, x.day(1, Check.INTS, i, 20, 4), INDEX);
        }
        CHECK.dueWithFault("the last act", x, x.day(1, Check.INTS, 38, 1, 4), 1);
        CHECK.dueWithFault("half an act", x, x.day(1, Check.INTS, 39, 1, 4), INDEX);
        CHECK.dueWithFault("none from 40 on", x, x.day(1, Check.INTS, 40, 0, 0), 1);
        for (int i : new int[] {41, -1, LEAST, MOST}) {
            CHECK.dueWithFault("none from " + i + " on", x, x.day(1, Check.INTS, i, 0, 0), INDEX);
        }
        x.sheet(1, Check.INTS, 0);
        CHECK.dueWithFault("none of none", x, x.day(1, Check.INTS, 0, 0, 0), 1);
        CHECK.dueWithFault("none of none, from 1 on", x, x.day(1, Check.INTS, 1, 0, 0), INDEX);
        CHECK.dueWithFault("one of none", x, x.day(1, Check.INTS, 0, 1, 0), INDEX);
    }

    private static void dayWithoutAHall() {
        CHECK.says("FAULTS CAST, NULL, INDEX; STATE: there is no HALL; pair by pair OUTSIDE");
        LampSwitches x = new LampSwitches();
        CHECK.dueWithFault("sheet 4", x, x.day(4, 0, 0, 0, 0), UNKNOWN);
        CHECK.dueWithFault("lane 3", x, x.day(0, 3, 0, 0, 0), OUTSIDE);
        CHECK.dueWithFault("nothing", x, x.day(0, 0, 0, 0, 0), NULL);
        Check.write(x, 0, Check.BYTES, 0, 15);
        CHECK.dueWithFault("another lane", x, x.day(0, 1, 0, 0, 0), CAST);
        CHECK.dueWithFault("too far", x, x.day(0, 0, 1, 1, 0), INDEX);
        CHECK.dueWithFault("no hall", x, x.day(0, 0, 0, 0, 0), STATE);
        CHECK.dueWithFault("no hall, ahead of what a pair is", x, x.day(0, 0, 0, 1, 0), STATE);
        Check.write(x, 0, Check.BYTES, 0, 0);
        CHECK.dueWithFault("no hall, ahead of no switch", x, x.day(0, 0, 0, 1, 14), STATE);
    }

    private static void pairsRefused() {
        CHECK.says("pair by pair OUTSIDE: the second is not 0 .. 14, it is 10 .. 14 and the first is not 0 .. 4; "
            + "UNKNOWN: the first is no SWITCH (of 0 .. 9).");
        for (int second = -2; second <= 17; second++) {
            for (int first = -2; first <= 7; first++) {
                LampSwitches x = Check.withHall("l22;p111;p111;p111");
                int want = second < 0 || second > 14 ? OUTSIDE
                    : second > 9 ? (first < 0 || first > 4 ? OUTSIDE : first < 2 && second < 12 ? NONE : 0)
                    : first < 0 || first > 2 ? UNKNOWN : NONE;
                CHECK.dueWithFault("pair " + first + ", " + second, x, day(x, 1, first, second), want);
            }
        }
        LampSwitches x = Check.withHall("l22;p111;p111;p111");
        for (int far : new int[] {LEAST, MOST}) {
            CHECK.dueWithFault("second " + far, x, day(x, 0, 0, far), OUTSIDE);
            CHECK.dueWithFault("first " + far + " of a lamp", x, day(x, 0, far, 10), OUTSIDE);
            CHECK.dueWithFault("first " + far + " of a switch", x, day(x, 0, far, 0), UNKNOWN);
        }
        CHECK.dueWithFault("UNKNOWN of the first pair", x, day(x, 1, 3, 9, 0, 15), UNKNOWN);
        CHECK.dueWithFault("OUTSIDE of the first pair", x, day(x, 1, 0, 15, 3, 9), OUTSIDE);
        CHECK.dueWithFault("behind one that can't be", x, day(x, 1, 4, 10, 3, 9), UNKNOWN);
        CHECK.dueWithFault("behind one that can't be", x, day(x, 1, 0, 14, 5, 14), OUTSIDE);
        int[] pairs = new int[42];
        pairs[39] = 15;
        pairs[41] = 15;
        CHECK.due("the 20th of 20 pairs", dayOf20(pairs), OUTSIDE);
        pairs[39] = 0;
        CHECK.due("the pair behind 20", dayOf20(pairs), 0);
        LampSwitches y = Check.withHall("l5" + ";p11".repeat(5));
        CHECK.due("switch 4 of 5", day(y, 10, 4, 9), 4);
        CHECK.due("switch 5 of 5", day(y, 10, 5, 9), UNKNOWN);
    }

    private static int dayOf20(int[] pairs) {
        LampSwitches x = Check.withHall("l22;p111");
        Check.write(x, 1, Check.INTS, pairs);
        return x.day(1, Check.INTS, 0, 20, 3);
    }
}
