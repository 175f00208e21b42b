/** The edges that the document names of readings and odds: Terms 4, promises 15 to 20. */
final class EdgeReadingTest {
    private static final Check CHECK = new Check("EdgeReadingTest");
    private static final int UNKNOWN = Check.UNKNOWN, OUTSIDE = Check.OUTSIDE, FULL = Check.FULL;
    private static final int LEAST = Check.LEAST, MOST = Check.MOST;
    private static final int ALL_TURNS = 0b11110, ALL_KINDS = 0b111, ALL_SHADES = 0b111100;
    private static final String LARGEST = "l55555;p110000;p101000;p100100;p100010;p100001";

    public static void main(String[] args) {
        eightAtMost();
        readingRefused();
        shadesThatALampHasNot();
        back();
        backRefused();
        allDarkAheadOfIt();
        noReadings();
        turnings();
        kinds();
        shadings();
        allReadings();
        inPlaceOfWhatItIsAlone();
        askedOfNone();
        odds();
        leastTerms();
        oddsRefused();
        askingChangesNothing();
        CHECK.end();
    }

    private static void eightAtMost() {
        CHECK.says("READINGS, 8 at most, numbered by how many there are");
        LampSwitches x = Check.withHall("l2;p11");
        for (int number = 0; number < 8; number++) {
            CHECK.due("how many ahead of it", x.many(4), number);
            CHECK.due("its number", x.reading(0, 0, 1), number);
        }
        CHECK.due("a ninth", x.reading(0, 0, 1), FULL);
        CHECK.due("a ninth again", x.reading(0, 0, 1), FULL);
        CHECK.due("how many", x.many(4), 8);
        CHECK.due("one is taken back", x.back(1), 7);
        CHECK.due("an eighth again", x.reading(0, 0, 1), 7);
        CHECK.due("a ninth", x.reading(0, 0, 1), FULL);
        CHECK.due("all are taken back", x.back(8), 0);
        CHECK.due("the first again", x.reading(0, 0, 1), 0);
    }

    private static void readingRefused() {
        CHECK.says("A READING: its number. UNKNOWN: SWITCH, LAMP; OUTSIDE: v (0 .. 4); FULL.");
        for (int readings : new int[] {0, 7, 8}) {
            LampSwitches x = Check.withHall("l22;p111;p111;p111");
            for (int number = 0; number < readings; number++) {
                x.reading(0, 0, 1);
            }
            for (int s : new int[] {-1, 3, LEAST, MOST}) {
                CHECK.due("switch " + s, x.reading(s, 0, 0), UNKNOWN);
                CHECK.due("switch " + s + ", v 5", x.reading(s, 0, 5), UNKNOWN);
            }
            for (int l : new int[] {-1, 2, LEAST, MOST}) {
                CHECK.due("lamp " + l, x.reading(2, l, 0), UNKNOWN);
                CHECK.due("lamp " + l + ", v -1", x.reading(2, l, -1), UNKNOWN);
            }
            for (int v : new int[] {-1, 5, LEAST, MOST}) {
                CHECK.due("v " + v, x.reading(2, 1, v), OUTSIDE);
            }
            CHECK.due("how many", x.many(4), readings);
            CHECK.due("one more", x.reading(2, 1, 0), readings < 8 ? readings : FULL);
        }
        CHECK.due("no hall", new LampSwitches().reading(0, 0, 0), UNKNOWN);
        LampSwitches y = Check.withHall(LARGEST);
        CHECK.due("the last switch, the last lamp", y.reading(4, 4, 4), 0);
        CHECK.due("switch 5 of 5", y.reading(5, 4, 4), UNKNOWN);
        CHECK.due("lamp 5 of 5", y.reading(4, 5, 4), UNKNOWN);
    }

    private static void shadesThatALampHasNot() {
        CHECK.says("OUTSIDE: v (0 .. 4); FULL.");
        LampSwitches x = Check.withHall("l2;p11");
        for (int v = 0; v <= 4; v++) {
            CHECK.due("v " + v + " of a lamp of 2", x.reading(0, 0, v), 0);
            CHECK.due("turnings of it", x.turnings(0), v == 0 ? 0b10100 : v == 1 ? 0b01010 : 0);
            x.back(1);
        }
    }

    private static void back() {
        CHECK.says("The last n READINGS (0 .. as many as there are) are taken back: how many are left.");
        for (int n = 0; n <= 8; n++) {
            LampSwitches x = Check.withHall("l5;p11");
            for (int number = 0; number < 8; number++) {
                x.reading(0, 0, number < 4 ? 1 : 2);
            }
            CHECK.due("both, never so", x.turnings(0), 0);
            CHECK.due("back(" + n + ")", x.back(n), 8 - n);
            CHECK.due("how many", x.many(4), 8 - n);
            CHECK.due("the first are left", x.turnings(0), n < 4 ? 0 : n < 8 ? 0b00010 : ALL_TURNS);
            x.reading(0, 0, 3);
            CHECK.due("a new one in place of them", x.turnings(0), n < 8 ? 0 : 0b01000);
        }
        LampSwitches y = Check.withHall("l5;p11");
        y.reading(0, 0, 1);
        y.reading(0, 0, 4);
        y.back(1);
        y.reading(0, 0, 1);
        CHECK.due("the one taken back is no more", y.turnings(0), 0b00010);
    }

    private static void backRefused() {
        CHECK.says("`int back(int n)`");
        for (int readings : new int[] {0, 1, 8}) {
            LampSwitches x = Check.withHall("l5;p11");
            for (int number = 0; number < readings; number++) {
                x.reading(0, 0, 1);
            }
            for (int n : new int[] {-1, readings + 1, 9, LEAST, MOST}) {
                CHECK.due("back(" + n + ") of " + readings, x.back(n), OUTSIDE);
            }
            CHECK.due("how many", x.many(4), readings);
            CHECK.due("back(0)", x.back(0), readings);
            CHECK.due("all", x.back(readings), 0);
            CHECK.due("none of none", x.back(0), 0);
            CHECK.due("one of none", x.back(1), OUTSIDE);
        }
        LampSwitches y = new LampSwitches();
        CHECK.due("no hall, none", y.back(0), 0);
        CHECK.due("no hall, one", y.back(1), OUTSIDE);
        CHECK.due("no hall, -1", y.back(-1), OUTSIDE);
    }

    private static void allDarkAheadOfIt() {
        CHECK.says("by a SWITCH PRESSED once, all dark ahead of it, a LAMP is of SHADE v then");
        LampSwitches x = Check.withHall("l53;b411;p210");
        x.shade(0, 3);
        x.shade(1, 2);
        x.press(0, 7);
        // 5 on of 5 is dark, of 3 it is 2; 2 on of 5 is 2; not wired is dark.
        int[][] so = {{0, 0, 0}, {0, 1, 2}, {1, 0, 2}, {1, 1, 0}};
        for (int[] reading : so) {
            for (int v = 0; v <= 4; v++) {
                x.reading(reading[0], reading[1], v);
                boolean isSo = v == reading[2];
                String told = "switch " + reading[0] + ", lamp " + reading[1] + ", v " + v;
                CHECK.due("kinds by " + told, x.kinds(reading[0]) >> (reading[0] == 0 ? 1 : 0) & 1, isSo ? 1 : 0);
                CHECK.due("another's turnings by " + told, x.turnings(1 - reading[0]), isSo ? ALL_TURNS : 0);
                x.back(1);
            }
        }
        CHECK.due("pressed by press() alone", x.many(3), 7);
    }

    private static void noReadings() {
        CHECK.says("in place of what it is alone, by which all READINGS are so: TURNINGS of a SWITCH: TURN 1 .. 4; "
            + "KINDS of a SWITCH: 0 .. 2; SHADINGS of a LAMP: SHADES 2 .. 5; as sets.");
        LampSwitches x = Check.withHall(LARGEST);
        for (int at = 0; at < 5; at++) {
            CHECK.due("turnings(" + at + ")", x.turnings(at), 30);
            CHECK.due("kinds(" + at + ")", x.kinds(at), 7);
            CHECK.due("shadings(" + at + ")", x.shadings(at), 60);
        }
        LampSwitches y = Check.withHall("l2;d40");
        CHECK.due("smallest hall, turnings", y.turnings(0), 30);
        CHECK.due("smallest hall, kinds", y.kinds(0), 7);
        CHECK.due("smallest hall, shadings", y.shadings(0), 60);
    }

    private static int movesOf(int kind, int turn) {
        return kind == 0 ? turn : kind == 1 ? turn + 1 : 2 * turn;
    }

    private static void turnings() {
        CHECK.says("TURNINGS of a SWITCH: TURN 1 .. 4");
        for (int kind = 0; kind < 3; kind++) {
            for (int shades = 2; shades <= 5; shades++) {
                for (int v = 0; v <= 4; v++) {
                    LampSwitches x = Check.withHall("l" + shades + ";" + "pbd".charAt(kind) + "11");
                    x.reading(0, 0, v);
                    int set = 0;
                    for (int turn = 1; turn <= 4; turn++) {
                        set |= movesOf(kind, turn) % shades == v ? 1 << turn : 0;
                    }
                    CHECK.due("kind " + kind + ", " + shades + " shades, v " + v, x.turnings(0), set);
                    CHECK.due("turn as it was", x.ofSwitch(0, 1), 1);
                }
            }
        }
    }

    private static void kinds() {
        CHECK.says("KINDS of a SWITCH: 0 .. 2");
        for (int turn = 1; turn <= 4; turn++) {
            for (int shades = 2; shades <= 5; shades++) {
                for (int v = 0; v <= 4; v++) {
                    LampSwitches x = Check.withHall("l" + shades + ";p" + turn + "1");
                    x.reading(0, 0, v);
                    int set = 0;
                    for (int kind = 0; kind <= 2; kind++) {
                        set |= movesOf(kind, turn) % shades == v ? 1 << kind : 0;
                    }
                    CHECK.due("turn " + turn + ", " + shades + " shades, v " + v, x.kinds(0), set);
                    CHECK.due("kind as it was", x.ofSwitch(0, 0), 0);
                }
            }
        }
    }

    private static void shadings() {
        CHECK.says("SHADINGS of a LAMP: SHADES 2 .. 5");
        for (int kind = 0; kind < 3; kind++) {
            for (int turn = 1; turn <= 4; turn++) {
                for (int v = 0; v <= 4; v++) {
                    LampSwitches x = Check.withHall("l5;" + "pbd".charAt(kind) + turn + "1");
                    x.shade(0, 4);
                    x.reading(0, 0, v);
                    int set = 0;
                    for (int shades = 2; shades <= 5; shades++) {
                        set |= movesOf(kind, turn) % shades == v ? 1 << shades : 0;
                    }
                    CHECK.due("kind " + kind + ", turn " + turn + ", v " + v, x.shadings(0), set);
                    CHECK.due("shades as they were", x.ofLamp(0, 0), 5);
                    CHECK.due("shade as it was", x.ofLamp(0, 1), 4);
                }
            }
        }
    }

    private static void allReadings() {
        CHECK.says("by which all READINGS are so");
        for (int wrong = 0; wrong < 8; wrong++) {
            LampSwitches x = Check.withHall("l5;p31");
            for (int number = 0; number < 8; number++) {
                x.reading(0, 0, number == wrong ? 1 : 3);
            }
            CHECK.due("reading " + wrong + " of 8 is another", x.turnings(0), 0);
            CHECK.due("reading " + wrong + " of 8 is another", x.kinds(0), 0);
            CHECK.due("reading " + wrong + " of 8 is another", x.shadings(0), 0);
        }
        LampSwitches y = Check.withHall("l52;d111;p310");
        y.reading(0, 0, 4);
        CHECK.due("one", y.turnings(0), 0b00100);
        y.reading(0, 1, 0);
        CHECK.due("two that agree", y.turnings(0), 0b00100);
        y.reading(0, 1, 1);
        CHECK.due("a third that does not", y.turnings(0), 0);
    }

    private static void inPlaceOfWhatItIsAlone() {
        CHECK.says("All that follows: in place of what it is alone");
        LampSwitches x = Check.withHall("l55;p111;p211");
        x.reading(0, 0, 3);
        x.reading(1, 0, 4);
        CHECK.due("one can't mend both", x.turnings(0), 0);
        CHECK.due("one can't mend both", x.turnings(1), 0);
        x.turn(1, 4);
        CHECK.due("the other as it is now", x.turnings(0), 0b01000);
        CHECK.due("it is not so yet", x.turnings(1), 0);
        x.turn(0, 3);
        CHECK.due("both are so", x.turnings(1), 0b10000);
        CHECK.due("a lamp that none was read of", x.shadings(1), ALL_SHADES);
        CHECK.due("the lamp that was read", x.shadings(0), 0b100000);
        x.wire(0, 0);
        CHECK.due("not wired, none mends it", x.turnings(0), 0);
    }

    private static void askedOfNone() {
        CHECK.says("TURNINGS, as a set. UNKNOWN.");
        LampSwitches none = new LampSwitches();
        LampSwitches x = Check.withHall("l222;p1111;p1111");
        for (int s : new int[] {-1, 2, 5, LEAST, MOST}) {
            CHECK.due("turnings(" + s + ")", x.turnings(s), UNKNOWN);
        }
        CHECK.due("turnings(1)", x.turnings(1), ALL_TURNS);
        CHECK.due("turnings(0) without a hall", none.turnings(0), UNKNOWN);
        CHECK.says("KINDS, as a set. UNKNOWN.");
        for (int s : new int[] {-1, 2, 5, LEAST, MOST}) {
            CHECK.due("kinds(" + s + ")", x.kinds(s), UNKNOWN);
        }
        CHECK.due("kinds(1)", x.kinds(1), ALL_KINDS);
        CHECK.due("kinds(0) without a hall", none.kinds(0), UNKNOWN);
        CHECK.says("SHADINGS, as a set. UNKNOWN.");
        for (int l : new int[] {-1, 3, 5, LEAST, MOST}) {
            CHECK.due("shadings(" + l + ")", x.shadings(l), UNKNOWN);
        }
        CHECK.due("shadings(2)", x.shadings(2), ALL_SHADES);
        CHECK.due("shadings(0) without a hall", none.shadings(0), UNKNOWN);
        LampSwitches y = Check.withHall(LARGEST);
        CHECK.due("turnings(5) of 5", y.turnings(5), UNKNOWN);
        CHECK.due("kinds(5) of 5", y.kinds(5), UNKNOWN);
        CHECK.due("shadings(5) of 5", y.shadings(5), UNKNOWN);
    }

    private static void dueOdds(String name, LampSwitches x, int n, long upper, long lower) {
        CHECK.due("upper of " + n + ", " + name, x.odds(n, 0), upper);
        CHECK.due("lower of " + n + ", " + name, x.odds(n, 1), lower);
    }

    private static void odds() {
        CHECK.says("if n SWITCHES are PRESSED from how all is now, each any one, all rows alike: "
            + "the share by which all LAMPS are dark then");
        LampSwitches x = Check.withHall("l2;p11");
        for (int n = 0; n <= 4; n++) {
            dueOdds("smallest hall", x, n, 1 - n % 2, 1);
        }
        x.shade(0, 1);
        for (int n = 0; n <= 4; n++) {
            dueOdds("smallest hall, not dark", x, n, n % 2, 1);
        }
        LampSwitches y = Check.withHall(LARGEST);
        dueOdds("largest hall", y, 0, 1, 1);
        dueOdds("largest hall", y, 4, 0, 1);
        for (int l = 0; l < 4; l++) {
            y.shade(l, 4);
        }
        dueOdds("largest hall, 24 rows of 625", y, 4, 24, 625);
        dueOdds("largest hall, too few presses", y, 3, 0, 1);
        LampSwitches z = Check.withHall("l3;p11;p21;p10");
        int[][] want = {{1, 1}, {1, 3}, {1, 3}, {1, 3}, {1, 3}};
        for (int n = 0; n <= 4; n++) {
            dueOdds("a third", z, n, want[n][0], want[n][1]);
        }
        LampSwitches u = Check.withHall("l2;p11;p10;p10");
        // By how many of 3, 9, 27, 81 rows the first is pressed an even number of times.
        int[][] even = {{1, 1}, {2, 3}, {5, 9}, {14, 27}, {41, 81}};
        for (int n = 0; n <= 4; n++) {
            dueOdds("even", u, n, even[n][0], even[n][1]);
        }
    }

    private static void leastTerms() {
        CHECK.says("Shares are told as upper and lower number (above 0) in least terms.");
        LampSwitches x = Check.withHall("l5" + ";p10".repeat(5));
        for (int n = 0; n <= 4; n++) {
            dueOdds("all rows", x, n, 1, 1);
        }
        x.shade(0, 1);
        for (int n = 0; n <= 4; n++) {
            dueOdds("no row", x, n, 0, 1);
        }
        LampSwitches y = Check.withHall("l2;p11;p11;p10;p10");
        for (int n = 1; n <= 4; n++) {
            dueOdds("half of all rows", y, n, 1, 2);
        }
        LampSwitches z = Check.withHall("l2;p10;p10;p10;p11");
        // 10 of 16, 136 of 256.
        dueOdds("of 16", z, 2, 5, 8);
        dueOdds("of 256", z, 4, 17, 32);
    }

    private static void oddsRefused() {
        CHECK.says("ODDS of n (0 .. 4; which 0 the upper, 1 the lower number). LOST: OUTSIDE; STATE: there is no HALL.");
        LampSwitches x = Check.withHall("l2;p11");
        LampSwitches none = new LampSwitches();
        for (int n : new int[] {-1, 5, LEAST, MOST}) {
            for (int which = 0; which < 2; which++) {
                CHECK.due("odds(" + n + ", " + which + ")", x.odds(n, which), Check.LOST);
                CHECK.due("and without a hall", none.odds(n, which), Check.LOST);
            }
        }
        for (int which : new int[] {-1, 2, LEAST, MOST}) {
            CHECK.due("odds(0, " + which + ")", x.odds(0, which), Check.LOST);
            CHECK.due("odds(4, " + which + ")", x.odds(4, which), Check.LOST);
            CHECK.due("and without a hall", none.odds(0, which), Check.LOST);
        }
        for (int n = 0; n <= 4; n++) {
            CHECK.due("upper without a hall", none.odds(n, 0), Check.LOST);
            CHECK.due("lower without a hall", none.odds(n, 1), Check.LOST);
        }
    }

    private static LampSwitches atWork() {
        LampSwitches x = Check.withHall("l35;p111;b210;d101");
        x.press(1, 5);
        x.shade(1, 3);
        x.reading(0, 0, 1);
        x.reading(2, 1, 2);
        x.tell(2);
        x.put(3, 0, 0);
        return x;
    }

    private static void askingChangesNothing() {
        CHECK.says("if n SWITCHES are PRESSED from how all is now");
        CHECK.dueUnchanged("odds(2, 1)", EdgeReadingTest::atWork, x -> x.odds(2, 1), 9, 1);
        CHECK.dueUnchanged("odds(2, 0)", EdgeReadingTest::atWork, x -> x.odds(2, 0), 2, 1);
        CHECK.dueUnchanged("turnings(0)", EdgeReadingTest::atWork, x -> x.turnings(0), 0b10010, 1);
        CHECK.dueUnchanged("kinds(2)", EdgeReadingTest::atWork, x -> x.kinds(2), 0b110, 1);
        CHECK.dueUnchanged("shadings(1)", EdgeReadingTest::atWork, x -> x.shadings(1), 0b111000, 1);
        CHECK.dueUnchanged("back(0)", EdgeReadingTest::atWork, x -> x.back(0), 2, 1);
    }
}
