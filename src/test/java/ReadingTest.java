/** Promises 15 to 20: reading, back, turnings, kinds, shadings, odds. */
final class ReadingTest {
    private static final Check CHECK = new Check("ReadingTest");
    /** Moves 1, 3, 6, 4. */
    private static final String TEXT = "l2345;p11101;b20110;d31001;p40000";

    public static void main(String[] args) {
        reading();
        back();
        setsWithoutReadings();
        setsOfASwitch();
        setsOfALamp();
        setsByReadingsOfOthers();
        setsFollowTheHall();
        unknownOnes();
        odds();
        oddsThatAreLost();
        CHECK.end();
    }

    private static void reading() {
        LampSwitches x = Check.withHall(TEXT);
        CHECK.due("v 5", x.reading(0, 0, 5), Check.OUTSIDE);
        CHECK.due("v -1", x.reading(0, 0, -1), Check.OUTSIDE);
        CHECK.due("switch 4", x.reading(4, 0, 9), Check.UNKNOWN);
        CHECK.due("lamp 4", x.reading(0, 4, 9), Check.UNKNOWN);
        for (int number = 0; number < 8; number++) {
            CHECK.due("its number", x.reading(number % 4, number % 3, number % 5), number);
            CHECK.due("how many", x.many(4), number + 1);
        }
        CHECK.due("a ninth", x.reading(0, 0, 0), Check.FULL);
        CHECK.due("a ninth, v 5", x.reading(0, 0, 5), Check.OUTSIDE);
        CHECK.due("a ninth, lamp 4", x.reading(0, 4, 0), Check.UNKNOWN);
        CHECK.due("how many", x.many(4), 8);
        CHECK.dueShades("behind readings", x, 0, 0, 0, 0);
        for (int none : Check.NOWHERE) {
            CHECK.due("switch " + none, x.reading(none, 0, 0), Check.UNKNOWN);
            CHECK.due("lamp " + none, x.reading(0, none, 0), Check.UNKNOWN);
        }
    }

    private static void back() {
        LampSwitches x = Check.withHall(TEXT);
        CHECK.due("none of none", x.back(0), 0);
        CHECK.due("one of none", x.back(1), Check.OUTSIDE);
        x.reading(0, 0, 1);
        x.reading(0, 0, 0);
        x.reading(1, 0, 4);
        CHECK.due("below 0", x.back(-1), Check.OUTSIDE);
        CHECK.due("too many", x.back(4), Check.OUTSIDE);
        CHECK.due("far too many", x.back(Integer.MAX_VALUE), Check.OUTSIDE);
        CHECK.due("none", x.back(0), 3);
        CHECK.due("two", x.back(2), 1);
        CHECK.due("the first stands", x.turnings(0), 0b01010);
        CHECK.due("next number", x.reading(0, 0, 1), 1);
        CHECK.due("all", x.back(2), 0);
        CHECK.due("no hall", new LampSwitches().back(0), 0);
    }

    private static void dueSets(LampSwitches x, int s, int turnings, int kinds) {
        CHECK.due("turnings(" + s + ")", x.turnings(s), turnings);
        CHECK.due("kinds(" + s + ")", x.kinds(s), kinds);
    }

    private static void setsWithoutReadings() {
        LampSwitches x = Check.withHall(TEXT);
        for (int at = 0; at < 4; at++) {
            dueSets(x, at, 0b11110, 0b111);
            CHECK.due("shadings(" + at + ")", x.shadings(at), 0b111100);
        }
    }

    private static void setsOfASwitch() {
        LampSwitches x = Check.withHall("l5;p11;b21;d31");
        x.reading(0, 0, 2);
        // TURN 2; as plain 1, as broad 2, as double 2.
        dueSets(x, 0, 0b00100, 0b110);
        x.back(1);
        x.reading(1, 0, 0);
        // TURN 4 and 1 more; of TURN 2: 2, 3, 4.
        dueSets(x, 1, 0b10000, 0);
        x.back(1);
        x.reading(2, 0, 1);
        // Twice 3 is 6; of TURN 3: 3, 4, 6.
        dueSets(x, 2, 0b01000, 0b100);
        CHECK.due("kind as it was", x.ofSwitch(2, 0), 2);
        CHECK.due("turn as it was", x.ofSwitch(2, 1), 3);
        LampSwitches y = Check.withHall("l2;d11;p10");
        y.reading(0, 0, 0);
        dueSets(y, 0, 0b11110, 0b110);
        y.reading(1, 0, 0);
        dueSets(y, 1, 0b11110, 0b111);
        y.reading(1, 0, 1);
        dueSets(y, 1, 0, 0);
        dueSets(y, 0, 0, 0);
    }

    private static void setsOfALamp() {
        LampSwitches x = Check.withHall("l5;p41;d31;p10");
        x.reading(0, 0, 0);
        CHECK.due("4 on is dark", x.shadings(0), 0b010100);
        x.reading(1, 0, 2);
        CHECK.due("6 on is 2, too", x.shadings(0), 0b010000);
        x.back(2);
        x.reading(0, 0, 4);
        CHECK.due("4 on is 4", x.shadings(0), 0b100000);
        x.back(1);
        x.reading(1, 0, 0);
        CHECK.due("6 on is dark", x.shadings(0), 0b001100);
        x.back(1);
        x.reading(2, 0, 0);
        CHECK.due("not wired", x.shadings(0), 0b111100);
        x.reading(2, 0, 1);
        CHECK.due("never", x.shadings(0), 0);
        CHECK.due("shades as they were", x.ofLamp(0, 0), 5);
    }

    private static void setsByReadingsOfOthers() {
        LampSwitches x = Check.withHall("l35;p110;p201");
        x.reading(1, 1, 2);
        CHECK.due("another's that is so", x.turnings(0), 0b11110);
        CHECK.due("another lamp's that is so", x.shadings(0), 0b111100);
        x.reading(1, 1, 3);
        CHECK.due("another's that is not", x.turnings(0), 0);
        CHECK.due("another's that is not", x.kinds(0), 0);
        CHECK.due("another lamp's that is not", x.shadings(0), 0);
    }

    private static void setsFollowTheHall() {
        LampSwitches x = Check.withHall("l5;p11;p21");
        x.reading(0, 0, 2);
        CHECK.due("not so yet", x.turnings(1), 0);
        x.turn(0, 2);
        CHECK.due("so when turned", x.turnings(1), 0b11110);
        x.wire(0, 0);
        CHECK.due("not so unwired", x.turnings(0), 0);
        x.wire(0, 0);
        x.shade(0, 3);
        x.press(1, 1);
        CHECK.due("whatever is now", x.turnings(0), 0b00100);
    }

    private static void unknownOnes() {
        LampSwitches x = Check.withHall("l23;p111");
        CHECK.due("turnings(1)", x.turnings(1), Check.UNKNOWN);
        CHECK.due("kinds(1)", x.kinds(1), Check.UNKNOWN);
        CHECK.due("shadings(1)", x.shadings(1), 0b111100);
        CHECK.due("shadings(2)", x.shadings(2), Check.UNKNOWN);
        for (int none : Check.NOWHERE) {
            CHECK.due("turnings(" + none + ")", x.turnings(none), Check.UNKNOWN);
            CHECK.due("kinds(" + none + ")", x.kinds(none), Check.UNKNOWN);
            CHECK.due("shadings(" + none + ")", x.shadings(none), Check.UNKNOWN);
        }
    }

    private static void dueOdds(LampSwitches x, int n, long upper, long lower) {
        CHECK.due("upper of odds(" + n + ")", x.odds(n, 0), upper);
        CHECK.due("lower of odds(" + n + ")", x.odds(n, 1), lower);
    }

    private static void odds() {
        LampSwitches x = Check.withHall("l2;p11;p10");
        dueOdds(x, 0, 1, 1);
        for (int n = 1; n <= 4; n++) {
            dueOdds(x, n, 1, 2);
        }
        x.shade(0, 1);
        dueOdds(x, 0, 0, 1);
        dueOdds(x, 1, 1, 2);
        LampSwitches y = Check.withHall("l23;p110;p101;p111");
        dueOdds(y, 1, 0, 1);
        // Twice the first.
        dueOdds(y, 2, 1, 9);
        // Three times the second; the second, and the third twice.
        dueOdds(y, 3, 4, 27);
        // Four times the first; each, the second twice; the first, and the third three times.
        dueOdds(y, 4, 1 + 12 + 4, 81);
        CHECK.dueShades("behind odds", y, 0, 0);
        LampSwitches z = Check.withHall("l5;p10;p10;p10;p10;p10");
        dueOdds(z, 4, 1, 1);
        z.shade(0, 2);
        dueOdds(z, 4, 0, 1);
        LampSwitches w = Check.withHall("l55555;p110000;p101000;p100100;p100010;p100001");
        w.shade(0, 4);
        w.shade(1, 4);
        w.shade(2, 4);
        w.shade(3, 4);
        dueOdds(w, 4, 24, 625);
    }

    private static void oddsThatAreLost() {
        LampSwitches x = new LampSwitches();
        CHECK.due("no hall", x.odds(0, 0), Check.LOST);
        Check.take(x, "l2;p11");
        for (int n : new int[] {-1, 5, Integer.MIN_VALUE, Integer.MAX_VALUE}) {
            CHECK.due("odds(" + n + ", 0)", x.odds(n, 0), Check.LOST);
        }
        for (int which : new int[] {-1, 2, Integer.MIN_VALUE, Integer.MAX_VALUE}) {
            CHECK.due("odds(0, " + which + ")", x.odds(0, which), Check.LOST);
        }
    }
}
