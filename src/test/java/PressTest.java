/** Promises 8 and 9: press, day. */
final class PressTest {
    private static final Check CHECK = new Check("PressTest");
    /** Moves 1, 3, 6, 4. */
    private static final String TEXT = "l2345;p11101;b20110;d31001;p40000";

    public static void main(String[] args) {
        press();
        wrongPresses();
        answersOfDay();
        firstWrongOfDay();
        dayChangesNothing();
        refusalsAndFaultsOfDay();
        pairsThatAreRefused();
        CHECK.end();
    }

    private static void press() {
        LampSwitches x = Check.withHall(TEXT);
        CHECK.due("press(0, 1)", x.press(0, 1), 1);
        CHECK.dueShades("by plain", x, 1, 1, 0, 1);
        CHECK.due("press(1, 1)", x.press(1, 1), 0);
        CHECK.dueShades("by broad", x, 1, 1, 3, 1);
        CHECK.due("press(2, 1)", x.press(2, 1), 0);
        CHECK.dueShades("by double", x, 1, 1, 3, 2);
        CHECK.due("press(0, 99)", x.press(0, 99), 1);
        CHECK.dueShades("by 99", x, 0, 1, 3, 1);
        CHECK.due("press(3, 7)", x.press(3, 7), 1);
        CHECK.due("presses", x.many(3), 109);
        CHECK.due("presses of 0", x.ofSwitch(0, 4), 100);
        CHECK.due("presses of 3", x.ofSwitch(3, 4), 7);
        LampSwitches y = Check.withHall("l5;d41");
        CHECK.due("8 on of 5", y.press(0, 1), 0);
        CHECK.dueShades("8 on of 5", y, 3);
        CHECK.due("40 on of 5", y.press(0, 4), 1);
    }

    private static void wrongPresses() {
        LampSwitches x = Check.withHall(TEXT);
        for (int n : new int[] {0, 100, -1, Integer.MIN_VALUE, Integer.MAX_VALUE}) {
            CHECK.due("press(0, " + n + ")", x.press(0, n), Check.OUTSIDE);
        }
        CHECK.due("press(4, 0)", x.press(4, 0), Check.UNKNOWN);
        for (int s : Check.NOWHERE) {
            CHECK.due("press(" + s + ", 1)", x.press(s, 1), Check.UNKNOWN);
        }
        CHECK.dueShades("refused", x, 0, 0, 0, 0);
        CHECK.due("presses", x.many(3), 0);
    }

    /** All that can be asked of a day: what 0, 1, 2, 3, 4, 10, 11, 12, 13, 14. */
    private static void dueOfDay(LampSwitches x, String name, int[] pairs, int... want) {
        int[] whats = {0, 1, 2, 3, 4, 10, 11, 12, 13, 14};
        Check.write(x, 1, Check.SHORTS, pairs);
        for (int at = 0; at < whats.length; at++) {
            int got = x.day(1, Check.SHORTS, 0, pairs.length / 2, whats[at]);
            CHECK.dueWithFault("day of " + name + ", what " + whats[at], x, got, want[at]);
        }
    }

    private static void answersOfDay() {
        LampSwitches x = Check.withHall(TEXT);
        int none = Check.NONE;
        dueOfDay(x, "none", new int[] {}, 4, none, 0, 0, 0, 0, 0, 0, 0, none);
        dueOfDay(x, "one press", new int[] {0, 1}, 1, none, 3, 1, 0, 1, 1, 0, 1, none);
        dueOfDay(x, "no presses", new int[] {0, 0, 2, 0}, 4, none, 0, 0, 2, 0, 0, 0, 0, none);
        // 3 times 1, twice 3, 9 times 6: 3 and 54 of 2, 3 and 6 of 3, 6 of 4, 3 and 54 of 5.
        dueOfDay(x, "presses", new int[] {0, 3, 1, 2, 2, 9}, 1, none, 1 + 0 + 2 + 2, 14, 0, 1, 0, 2, 2, none);
        dueOfDay(x, "shades", new int[] {1, 10, 3, 12, 0, 10, 0, 12, 4, 13}, 3, none, 4, 0, 1, 0, 0, 0, 4, none);
        x.press(0, 1);
        dueOfDay(x, "from now", new int[] {0, 9, 0, 0, 0, 9, 0, 9}, 2, none, 4, 27, 0, 0, 1, 0, 3, none);
        // 30 presses in all come round for each lamp.
        dueOfDay(x, "round", new int[] {3, 9, 0, 9, 0, 9, 0, 9, 0, 2}, 4, none, 0, 38, 1, 0, 0, 0, 0, none);
    }

    private static void firstWrongOfDay() {
        LampSwitches x = Check.withHall(TEXT);
        int first = -100;
        dueOfDay(x, "no such shade", new int[] {2, 10}, first, 0, first, first, first, first, first, first, first, first);
        dueOfDay(x, "no such lamp", new int[] {0, 1, 0, 14}, -101, 1, -101, -101, -101, -101, -101, -101, -101, -101);
        dueOfDay(x, "two wrong", new int[] {0, 1, 4, 13, 4, 12, 3, 11}, -102, 2, -102, -102, -102, -102, -102, -102,
            -102, -102);
    }

    private static void dayChangesNothing() {
        LampSwitches x = Check.withHall(TEXT);
        x.shade(2, 3);
        Check.write(x, 1, Check.INTS, 0, 5, 1, 13, 2, 1);
        x.day(1, Check.INTS, 0, 3, 0);
        CHECK.dueShades("behind a day", x, 0, 0, 3, 0);
        CHECK.due("presses", x.many(3), 0);
        CHECK.due("presses of 0", x.ofSwitch(0, 4), 0);
        CHECK.due("twice alike", x.day(1, Check.INTS, 0, 3, 3), 6);
        Check.write(x, 1, Check.INTS, 99, 0, 1, 9, 99);
        CHECK.due("cells around it don't matter", x.day(1, Check.INTS, 1, 1, 3), 1);
    }

    private static void refusalsAndFaultsOfDay() {
        LampSwitches x = new LampSwitches();
        CHECK.dueWithFault("sheet 4", x, x.day(4, 9, 0, 99, 99), Check.UNKNOWN);
        CHECK.dueWithFault("sheet -1", x, x.day(-1, 0, 0, 0, 0), Check.UNKNOWN);
        CHECK.dueWithFault("lane 3", x, x.day(0, 3, 0, 0, 0), Check.OUTSIDE);
        CHECK.dueWithFault("lane -1", x, x.day(0, -1, 0, 0, 0), Check.OUTSIDE);
        CHECK.dueWithFault("n -1", x, x.day(0, 0, 0, -1, 0), Check.OUTSIDE);
        CHECK.dueWithFault("n 21", x, x.day(0, 0, 0, 21, 0), Check.OUTSIDE);
        for (int what : new int[] {-1, 5, 9, 15, Integer.MIN_VALUE, Integer.MAX_VALUE}) {
            CHECK.dueWithFault("what " + what, x, x.day(0, 0, 0, 0, what), Check.OUTSIDE);
        }
        CHECK.dueWithFault("nothing", x, x.day(0, 0, -1, 0, 0), Check.NULL);
        x.sheet(0, Check.INTS, 40);
        CHECK.dueWithFault("other lane", x, x.day(0, Check.SHORTS, -1, 0, 0), Check.CAST);
        CHECK.dueWithFault("i below 0", x, x.day(0, Check.INTS, -1, 0, 0), Check.INDEX);
        CHECK.dueWithFault("too far", x, x.day(0, Check.INTS, 1, 20, 0), Check.INDEX);
        CHECK.dueWithFault("far too far", x, x.day(0, Check.INTS, Integer.MAX_VALUE, 20, 0), Check.INDEX);
        CHECK.dueWithFault("none beyond", x, x.day(0, Check.INTS, 41, 0, 0), Check.INDEX);
        CHECK.dueWithFault("no hall", x, x.day(0, Check.INTS, 0, 20, 0), Check.STATE);
        Check.write(x, 1, Check.BYTES, TEXT.chars().toArray());
        x.hall(1, Check.BYTES, 0, TEXT.length());
        CHECK.dueWithFault("all cells", x, x.day(0, Check.INTS, 0, 20, 4), 20);
        CHECK.dueWithFault("none, just behind", x, x.day(0, Check.INTS, 40, 0, 0), 4);
        x.put(0, 39, 7);
        CHECK.due("the last two cells", x.day(0, Check.INTS, 38, 1, 3), 7);
    }

    private static void pairsThatAreRefused() {
        LampSwitches x = Check.withHall(TEXT);
        refusedPairs(x, "second 15", Check.OUTSIDE, 0, 15);
        refusedPairs(x, "second -1", Check.OUTSIDE, 9, -1);
        refusedPairs(x, "shade 5", Check.OUTSIDE, 5, 10);
        refusedPairs(x, "shade -1", Check.OUTSIDE, -1, 14);
        refusedPairs(x, "switch 4", Check.UNKNOWN, 4, 9);
        refusedPairs(x, "switch -1", Check.UNKNOWN, -1, 0);
        refusedPairs(x, "unknown first", Check.UNKNOWN, 0, 1, 4, 0, 0, 15);
        refusedPairs(x, "outside first", Check.OUTSIDE, 0, 1, 0, 15, 4, 0);
        refusedPairs(x, "behind a first wrong", Check.OUTSIDE, 0, 14, 0, 15);
        refusedPairs(x, "behind a first wrong", Check.UNKNOWN, 2, 10, 4, 1);
    }

    private static void refusedPairs(LampSwitches x, String name, int want, int... pairs) {
        Check.write(x, 1, Check.INTS, pairs);
        for (int what = 0; what < 5; what++) {
            CHECK.dueWithFault(name, x, x.day(1, Check.INTS, 0, pairs.length / 2, what), want);
        }
    }
}
