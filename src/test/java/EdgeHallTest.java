/** The edges that the document names of texts and halls: Terms 1, promises 1 to 7. */
final class EdgeHallTest {
    private static final Check CHECK = new Check("EdgeHallTest");
    private static final int NULL = Check.NULL, CAST = Check.CAST, INDEX = Check.INDEX, SIZE = Check.SIZE;
    private static final int UNKNOWN = Check.UNKNOWN, OUTSIDE = Check.OUTSIDE;
    private static final int LEAST = Check.LEAST, MOST = Check.MOST;
    private static final String SMALLEST = "l2;p11";
    /** 46 codes. */
    private static final String LARGEST = "l55555;p410000;b401000;d400100;p400010;b400001";

    public static void main(String[] args) {
        newObject();
        lampsOfATextAndTheirShades();
        switchesOfAText();
        letters();
        turnsOfAText();
        wiresOfAText();
        firstFaultOfATextThatEndsTooSoon();
        firstFaultOfEachPlace();
        codesBeyondBytes();
        allAnew();
        notTaken();
        moves();
        behindTheLastShade();
        hallFromASheet();
        hallOfNoCells();
        hallRefused();
        ofLamp();
        ofSwitch();
        shade();
        turn();
        wire();
        CHECK.end();
    }

    private static void newObject() {
        CHECK.says("No HALL (no LAMPS, SWITCHES), SHEETS have nothing.");
        LampSwitches x = new LampSwitches();
        CHECK.due("lamps", x.many(0), 0);
        CHECK.due("switches", x.many(1), 0);
        CHECK.due("ofLamp(0, 0)", x.ofLamp(0, 0), UNKNOWN);
        CHECK.due("ofSwitch(0, 0)", x.ofSwitch(0, 0), UNKNOWN);
        CHECK.due("halls()", x.halls(), Check.STATE);
        for (int k = 0; k < 4; k++) {
            for (int lane = 0; lane < 3; lane++) {
                CHECK.due("cell(" + k + ", 0, " + lane + ")", x.cell(k, 0, lane), Check.LOST);
                CHECK.due("its fault", x.fault(), 1);
            }
            CHECK.due("lose(" + k + ")", x.lose(k), 0);
        }
        LampSwitches other = Check.withHall(LARGEST);
        other.tell(0);
        CHECK.due("another object's hall", x.many(0), 0);
        CHECK.due("another object's sheet", x.lose(0), 0);
        CHECK.due("another object's trace", x.trace(), 0);
        CHECK.due("an object behind another", Seen.of(new LampSwitches()).equals(Seen.of(x)) ? 1 : 0, 1);
    }

    private static void lampsOfATextAndTheirShades() {
        CHECK.says("l, then 1 to 5 digits 2 .. 5 (SHADES of LAMPS 0, 1, ..)");
        LampSwitches x = new LampSwitches();
        CHECK.due("no lamp", Check.take(x, "l;p1"), -101);
        for (int lamps = 1; lamps <= 5; lamps++) {
            String digits = "52345".substring(0, lamps);
            CHECK.due(lamps + " lamps", Check.take(x, "l" + digits + ";p1" + "1".repeat(lamps)), 1);
            CHECK.due("how many", x.many(0), lamps);
            for (int l = 0; l < lamps; l++) {
                CHECK.due("shades of lamp " + l, x.ofLamp(l, 0), digits.charAt(l) - '0');
            }
        }
        CHECK.due("six lamps", Check.take(x, "l523452;p1111111"), -106);
        for (int l = 0; l < 5; l++) {
            String ahead = "l" + "2".repeat(l);
            CHECK.due("digit 1 of lamp " + l, Check.take(x, ahead + "1;p1" + "1".repeat(l + 1)), -101 - l);
            CHECK.due("digit 6 of lamp " + l, Check.take(x, ahead + "6;p1" + "1".repeat(l + 1)), -101 - l);
        }
        CHECK.due("ahead of l", Check.take(x, "2;p11"), -100);
    }

    private static void switchesOfAText() {
        CHECK.says("then 1 to 5 SWITCHES, numbered from 0 on, each: ; and a letter, a digit 1 .. 4 (TURN)");
        CHECK.due("no switch", Check.take(new LampSwitches(), "l2"), -102);
        CHECK.due("no switch behind five lamps", Check.take(new LampSwitches(), "l22222"), -106);
        String[] parts = {";p11", ";b20", ";d31", ";p40", ";b11"};
        StringBuilder text = new StringBuilder("l3");
        for (int switches = 1; switches <= 5; switches++) {
            text.append(parts[switches - 1]);
            LampSwitches x = new LampSwitches();
            CHECK.due(switches + " switches", Check.take(x, text.toString()), switches);
            CHECK.due("how many", x.many(1), switches);
            for (int s = 0; s < switches; s++) {
                CHECK.due("turn of switch " + s, x.ofSwitch(s, 1), parts[s].charAt(2) - '0');
                CHECK.due("wires of switch " + s, x.ofSwitch(s, 3), parts[s].charAt(3) - '0');
            }
            CHECK.due("no switch " + switches, x.ofSwitch(switches, 0), UNKNOWN);
        }
        CHECK.due("six switches", Check.take(new LampSwitches(), text + ";p11"), -122);
    }

    private static void letters() {
        CHECK.says("Kinds: 0 PLAIN (p); 1 BROAD (b), a PLAIN one; 2 DOUBLE (d), a BROAD one.");
        for (int code = -128; code <= 127; code++) {
            LampSwitches x = new LampSwitches();
            Check.write(x, 0, Check.BYTES, 'l', '2', ';', code, '1', '1');
            int kind = code == 112 ? 0 : code == 98 ? 1 : code == 100 ? 2 : UNKNOWN;
            CHECK.due("letter " + code, x.hall(0, Check.BYTES, 0, 6), kind < 0 ? -103 : 1);
            CHECK.due("kind of " + code, x.ofSwitch(0, 0), kind);
        }
    }

    private static void turnsOfAText() {
        CHECK.says("a digit 1 .. 4 (TURN)");
        for (char kind : new char[] {'p', 'b', 'd'}) {
            for (int turn = 0; turn <= 9; turn++) {
                LampSwitches x = new LampSwitches();
                boolean taken = turn >= 1 && turn <= 4;
                CHECK.due(kind + " of " + turn, Check.take(x, "l2;" + kind + turn + "1"), taken ? 1 : -104);
                CHECK.due("turn of " + kind, x.ofSwitch(0, 1), taken ? turn : UNKNOWN);
            }
        }
    }

    private static void wiresOfAText() {
        CHECK.says("and a digit 0 or 1 for each LAMP (1: it is wired to that)");
        for (int set = 0; set < 32; set++) {
            StringBuilder text = new StringBuilder("l22222;p1");
            for (int l = 0; l < 5; l++) {
                text.append(set >> l & 1);
            }
            LampSwitches x = Check.withHall(text.toString());
            CHECK.due("wires of " + text, x.ofSwitch(0, 3), set);
            CHECK.due("switches to the last lamp of " + text, x.ofLamp(4, 2), set >> 4);
        }
        LampSwitches x = new LampSwitches();
        CHECK.due("a wire too few, at the end", Check.take(x, "l22;p11"), -107);
        CHECK.due("a wire too few, ahead of a switch", Check.take(x, "l22;p11;p111"), -107);
        CHECK.due("a wire too many, at the end", Check.take(x, "l22;p1111"), -108);
        CHECK.due("a wire too many, ahead of a switch", Check.take(x, "l22;p1111;p111"), -108);
        CHECK.due("digit 2", Check.take(x, "l22;p112"), -107);
        CHECK.due("the code ahead of 0", Check.take(x, "l22;p1/1"), -106);
    }

    private static void firstFaultOfATextThatEndsTooSoon() {
        CHECK.says("how many codes there are, if it just ends too soon");
        for (int n = 0; n <= LARGEST.length(); n++) {
            LampSwitches x = new LampSwitches();
            boolean ends = n >= 14 && (n - 14) % 8 == 0;
            int want = ends ? (n - 6) / 8 : -100 - n;
            CHECK.dueWithFault("the first " + n + " codes", x, Check.take(x, LARGEST.substring(0, n)), want);
        }
        for (int n = 0; n < SMALLEST.length(); n++) {
            LampSwitches x = new LampSwitches();
            CHECK.dueWithFault("the first " + n + " of 6", x, Check.take(x, SMALLEST.substring(0, n)), -100 - n);
        }
    }

    /** The codes with which a text of two lamps and two switches goes on at each of its places. */
    private static final String[] GO_ON = {"l", "2345", "2345;", ";2345", "pbd", "1234", "01", "01", ";", "pbd", "1234",
        "01", "01", ";"};

    private static void firstFaultOfEachPlace() {
        CHECK.says("the place (from 0 on) of the first code with which no TEXT goes on");
        String text = "l23;p110;d401;";
        for (int place = 0; place < text.length(); place++) {
            LampSwitches x = new LampSwitches();
            Check.write(x, 0, Check.INTS, text.chars().toArray());
            for (int code = 0; code < 128; code++) {
                if (GO_ON[place].indexOf(code) < 0) {
                    x.put(0, place, code);
                    CHECK.due("code " + code + " at " + place, x.hall(0, Check.INTS, 0, 14), -100 - place);
                }
            }
        }
        CHECK.says("(the digit of a sixth LAMP, the ; of a sixth SWITCH)");
        LampSwitches x = new LampSwitches();
        CHECK.due("a sixth lamp", Check.take(x, "l234523"), -106);
        CHECK.due("a sixth lamp, and more", Check.take(x, "l234523;p1111111"), -106);
        CHECK.due("a sixth switch", Check.take(x, LARGEST + ";"), -146);
        CHECK.due("a sixth switch, and more", Check.take(x, LARGEST + ";p111111"), -146);
        CHECK.due("a sixth switch of one lamp", Check.take(x, "l2" + ";p11".repeat(6)), -122);
        CHECK.due("the first of two faults", Check.take(x, "l26;p115;x"), -102);
    }

    private static void codesBeyondBytes() {
        CHECK.says("(Codes: l 108, p 112, b 98, d 100, ; 59, digits 48 .. 57.)");
        int[] codes = {108, 50, 59, 112, 49, 49};
        for (int lane = 0; lane < 3; lane++) {
            for (int place = 0; place < 6; place++) {
                LampSwitches x = new LampSwitches();
                Check.write(x, 3, lane, codes);
                CHECK.due("codes of lane " + lane, x.hall(3, lane, 0, 6), 1);
                x.put(3, place, codes[place] + 256);
                CHECK.due("256 more in lane " + lane, x.hall(3, lane, 0, 6), lane == 0 ? 1 : -100 - place);
                x.put(3, place, codes[place] - 65536);
                CHECK.due("65536 less in lane " + lane, x.hall(3, lane, 0, 6), lane < 2 ? 1 : -100 - place);
                x.put(3, place, -1);
                CHECK.due("-1 in lane " + lane, x.hall(3, lane, 0, 6), -100 - place);
            }
        }
    }

    /** A hall in which all was changed that a text makes anew. */
    private static LampSwitches used() {
        LampSwitches x = Check.withHall(LARGEST);
        for (int at = 0; at < 5; at++) {
            x.shade(at, 4);
            x.turn(at, 1 + at % 3);
            x.wire(at, 4 - at);
            x.press(at, 99);
            x.reading(at, at, at);
        }
        x.spare();
        return x;
    }

    private static void allAnew() {
        CHECK.says("A TEXT that is taken makes all anew: all LAMPS are of SHADE 0 (dark), nothing was PRESSED, "
            + "no READINGS.");
        for (String text : new String[] {LARGEST, SMALLEST, "l5432;d10011;b40000"}) {
            LampSwitches x = used();
            x.lose(0);
            CHECK.due("a text behind a used hall", Check.take(x, text) > 0 ? 1 : 0, 1);
            LampSwitches fresh = Check.withHall(text);
            CHECK.due("dark", x.many(2), x.many(0));
            CHECK.due("pressed", x.many(3), 0);
            CHECK.due("readings", x.many(4), 0);
            CHECK.due("pressed of switch 0", x.ofSwitch(0, 4), 0);
            CHECK.due("all of " + text, Seen.of(x).equals(Seen.of(fresh)) ? 1 : 0, 1);
        }
    }

    private static void notTaken() {
        CHECK.says("how many SWITCHES; -100 less the FIRST FAULT.");
        CHECK.dueUnchanged("a text that ends too soon", () -> {
            LampSwitches x = used();
            x.sheet(0, Check.BYTES, 1);
            x.put(0, 0, 'l');
            return x;
        }, x -> x.hall(0, Check.BYTES, 0, 1), -101, 0);
        CHECK.dueUnchanged("a text with a fault at its end", () -> {
            LampSwitches x = used();
            x.put(0, 45, '2');
            return x;
        }, x -> x.hall(0, Check.BYTES, 0, 46), -145, 0);
    }

    private static void moves() {
        CHECK.says("a PLAIN one TURN; a BROAD one 1 more; a DOUBLE one twice what a PLAIN one does");
        int[][] want = {{1, 2, 3, 4}, {2, 3, 4, 5}, {2, 4, 6, 8}};
        for (int kind = 0; kind < 3; kind++) {
            for (int turn = 1; turn <= 4; turn++) {
                LampSwitches x = Check.withHall("l5;" + "pbd".charAt(kind) + turn + "1");
                CHECK.due("moves of kind " + kind + ", turn " + turn, x.ofSwitch(0, 2), want[kind][turn - 1]);
                x.turn(0, 5 - turn);
                CHECK.due("moves of it when turned", x.ofSwitch(0, 2), want[kind][4 - turn]);
            }
        }
    }

    private static void behindTheLastShade() {
        CHECK.says("(behind the last SHADE comes SHADE 0)");
        for (int shades = 2; shades <= 5; shades++) {
            LampSwitches x = Check.withHall("l" + shades + ";p11");
            for (int press = 1; press <= 2 * shades; press++) {
                x.press(0, 1);
                CHECK.due("shade behind " + press + " of " + shades, x.ofLamp(0, 1), press % shades);
            }
            x.shade(0, shades - 1);
            CHECK.due("dark behind the last", x.press(0, 1), 1);
            x.shade(0, shades - 1);
            x.turn(0, 4);
            x.press(0, 1);
            CHECK.due("4 on from the last of " + shades, x.ofLamp(0, 1), 3 % shades);
        }
        LampSwitches x = Check.withHall("l2345;d41111");
        x.press(0, 1);
        CHECK.dueShades("8 on", x, 0, 2, 0, 3);
    }

    private static void hallFromASheet() {
        CHECK.says("A HALL by a TEXT of n cells of a SHEET from i on, taken as a row of a LANE");
        for (int lane = 0; lane < 3; lane++) {
            LampSwitches x = new LampSwitches();
            x.sheet(3, lane, 60);
            for (int i = 0; i < 46; i++) {
                x.put(3, 14 + i, LARGEST.charAt(i));
            }
            CHECK.dueWithFault("the last 46 of 60 cells", x, x.hall(3, lane, 14, 46), 5);
            CHECK.dueWithFault("one cell on", x, x.hall(3, lane, 15, 46), INDEX);
            CHECK.dueWithFault("one cell more", x, x.hall(3, lane, 14, 47), INDEX);
            CHECK.dueWithFault("all 60 cells", x, x.hall(3, lane, 0, 60), -100);
            CHECK.dueWithFault("61 cells", x, x.hall(3, lane, 0, 61), INDEX);
            CHECK.dueWithFault("the first three switches", x, x.hall(3, lane, 14, 30), 3);
            CHECK.due("lamps", x.many(0), 5);
            CHECK.due("switches", x.many(1), 3);
            x.copy(3, 14, 3, 0, 46);
            CHECK.dueWithFault("60 cells, the first 46 a text", x, x.hall(3, lane, 0, 60), -146);
            CHECK.dueWithFault("the first 46 of 60 cells", x, x.hall(3, lane, 0, 46), 5);
        }
    }

    private static void hallOfNoCells() {
        CHECK.says("INDEX (of cells from i on also where i is not 0 .. how many there are, if none of them is taken, too)");
        LampSwitches x = new LampSwitches();
        x.sheet(0, Check.BYTES, 0);
        CHECK.dueWithFault("no cell of none", x, x.hall(0, 0, 0, 0), -100);
        CHECK.dueWithFault("no cell of none, from 1 on", x, x.hall(0, 0, 1, 0), INDEX);
        CHECK.dueWithFault("no cell of none, from -1 on", x, x.hall(0, 0, -1, 0), INDEX);
        CHECK.dueWithFault("a cell of none", x, x.hall(0, 0, 0, 1), INDEX);
        x.sheet(0, Check.BYTES, 60);
        CHECK.dueWithFault("no cell of 60", x, x.hall(0, 0, 0, 0), -100);
        CHECK.dueWithFault("no cell from 60 on", x, x.hall(0, 0, 60, 0), -100);
        CHECK.dueWithFault("no cell from 61 on", x, x.hall(0, 0, 61, 0), INDEX);
        CHECK.dueWithFault("no cell from -1 on", x, x.hall(0, 0, -1, 0), INDEX);
        CHECK.dueWithFault("no cell from the most on", x, x.hall(0, 0, MOST, 0), INDEX);
        CHECK.dueWithFault("no cell from the least on", x, x.hall(0, 0, LEAST, 0), INDEX);
    }

    private static void hallRefused() {
        CHECK.says("UNKNOWN; OUTSIDE: lane; FAULTS CAST (nothing is no CAST), NULL, SIZE: n is below 0, "
            + "INDEX: not all cells are there; -100 less it.");
        LampSwitches x = new LampSwitches();
        Check.write(x, 0, Check.BYTES, 'x');
        for (int k : new int[] {-1, 4, LEAST, MOST}) {
            CHECK.dueWithFault("hall of sheet " + k, x, x.hall(k, 3, -1, -1), UNKNOWN);
        }
        for (int lane : new int[] {-1, 3, LEAST, MOST}) {
            CHECK.dueWithFault("hall of nothing in lane " + lane, x, x.hall(1, lane, -1, -1), OUTSIDE);
            CHECK.dueWithFault("hall of a row in lane " + lane, x, x.hall(0, lane, -1, -1), OUTSIDE);
        }
        for (int lane = 0; lane < 3; lane++) {
            CHECK.dueWithFault("hall of nothing, lane " + lane, x, x.hall(3, lane, -1, -1), NULL);
            for (int other = 0; other < 3; other++) {
                x.sheet(2, other, 1);
                int want = lane == other ? SIZE : CAST;
                CHECK.dueWithFault("hall of lane " + other + " as " + lane, x, x.hall(2, lane, -1, -1), want);
            }
        }
        CHECK.dueWithFault("n -1", x, x.hall(0, 0, 0, -1), SIZE);
        CHECK.dueWithFault("n least", x, x.hall(0, 0, MOST, LEAST), SIZE);
        CHECK.dueWithFault("i -1", x, x.hall(0, 0, -1, 1), INDEX);
        CHECK.dueWithFault("i 1", x, x.hall(0, 0, 1, 1), INDEX);
        CHECK.dueWithFault("n 2", x, x.hall(0, 0, 0, 2), INDEX);
        CHECK.dueWithFault("n most", x, x.hall(0, 0, 0, MOST), INDEX);
        CHECK.dueWithFault("i and n most", x, x.hall(0, 0, MOST, MOST), INDEX);
        CHECK.dueWithFault("the cell", x, x.hall(0, 0, 0, 1), -100);
    }

    private static void ofLamp() {
        CHECK.says("0 how many SHADES it has, 1 of which SHADE it is, 2 SWITCHES that are wired to it, as a set.");
        LampSwitches x = Check.withHall("l23455;p111110;p111110;p111110;p111110;p111110");
        for (int l = 0; l < 5; l++) {
            int shades = Math.min(5, 2 + l);
            CHECK.due("shades of " + l, x.ofLamp(l, 0), shades);
            CHECK.due("dark " + l, x.ofLamp(l, 1), 0);
            x.shade(l, shades - 1);
            CHECK.due("last shade of " + l, x.ofLamp(l, 1), shades - 1);
            CHECK.due("all or no switches to " + l, x.ofLamp(l, 2), l < 4 ? 31 : 0);
            CHECK.due("what -1", x.ofLamp(l, -1), OUTSIDE);
            CHECK.due("what 3", x.ofLamp(l, 3), OUTSIDE);
        }
        CHECK.due("what least", x.ofLamp(0, LEAST), OUTSIDE);
        CHECK.due("what most", x.ofLamp(0, MOST), OUTSIDE);
        CHECK.says("`int ofLamp(int l, int what)`: Of a LAMP");
        CHECK.due("lamp -1", x.ofLamp(-1, 0), UNKNOWN);
        CHECK.due("lamp 5 of 5", x.ofLamp(5, 0), UNKNOWN);
        CHECK.due("lamp -1, what -1", x.ofLamp(-1, -1), UNKNOWN);
        CHECK.due("lamp most, what 3", x.ofLamp(MOST, 3), UNKNOWN);
        LampSwitches y = Check.withHall(SMALLEST);
        CHECK.due("lamp 0 of 1", y.ofLamp(0, 0), 2);
        CHECK.due("lamp 1 of 1", y.ofLamp(1, 0), UNKNOWN);
        CHECK.due("no hall", new LampSwitches().ofLamp(0, 3), UNKNOWN);
    }

    private static void ofSwitch() {
        CHECK.says("0 kind, 1 TURN, 2 MOVES, 3 LAMPS that it is wired to, as a set, 4 how often it was PRESSED (by press()).");
        LampSwitches x = Check.withHall("l55555;p100000;b211111;d410001;p110000;p401110");
        int[][] want = {{0, 1, 1, 0, 0}, {1, 2, 3, 31, 99}, {2, 4, 8, 17, 0}, {0, 1, 1, 1, 0}, {0, 4, 4, 14, 1}};
        x.press(1, 99);
        x.press(4, 1);
        x.press(4, 0);
        x.press(4, 100);
        Check.write(x, 1, Check.INTS, 0, 9);
        x.day(1, Check.INTS, 0, 1, 0);
        x.fewest(0, Check.BYTES, 0, 0);
        x.odds(4, 0);
        for (int s = 0; s < 5; s++) {
            for (int what = 0; what < 5; what++) {
                CHECK.due("ofSwitch(" + s + ", " + what + ")", x.ofSwitch(s, what), want[s][what]);
            }
            CHECK.due("what -1", x.ofSwitch(s, -1), OUTSIDE);
            CHECK.due("what 5", x.ofSwitch(s, 5), OUTSIDE);
        }
        CHECK.due("what least", x.ofSwitch(0, LEAST), OUTSIDE);
        CHECK.due("what most", x.ofSwitch(0, MOST), OUTSIDE);
        CHECK.says("`int ofSwitch(int s, int what)`: Of a SWITCH");
        CHECK.due("switch -1", x.ofSwitch(-1, 0), UNKNOWN);
        CHECK.due("switch 5 of 5", x.ofSwitch(5, 0), UNKNOWN);
        CHECK.due("switch 5, what 5", x.ofSwitch(5, 5), UNKNOWN);
        LampSwitches y = Check.withHall("l22;p111");
        CHECK.due("switch 0 of 1", y.ofSwitch(0, 3), 3);
        CHECK.due("switch 1 of 1", y.ofSwitch(1, 3), UNKNOWN);
        CHECK.due("no hall", new LampSwitches().ofSwitch(0, 5), UNKNOWN);
    }

    private static void shade() {
        CHECK.says("A LAMP becomes of SHADE v: of which it was. UNKNOWN; OUTSIDE: it has not so many.");
        for (int shades = 2; shades <= 5; shades++) {
            LampSwitches x = Check.withHall("l" + shades + shades + ";p111");
            for (int l = 0; l < 2; l++) {
                CHECK.due("to the last of " + shades, x.shade(l, shades - 1), 0);
                CHECK.due("one beyond", x.shade(l, shades), OUTSIDE);
                CHECK.due("-1", x.shade(l, -1), OUTSIDE);
                CHECK.due("least", x.shade(l, LEAST), OUTSIDE);
                CHECK.due("most", x.shade(l, MOST), OUTSIDE);
                CHECK.due("the same again", x.shade(l, shades - 1), shades - 1);
                CHECK.due("the other lamp", x.ofLamp(1 - l, 1), 0);
                CHECK.due("to 0", x.shade(l, 0), shades - 1);
                CHECK.due("dark", x.ofLamp(l, 1), 0);
            }
            CHECK.due("lamp -1", x.shade(-1, 0), UNKNOWN);
            CHECK.due("lamp 2", x.shade(2, 0), UNKNOWN);
            CHECK.due("lamp 2, shade -1", x.shade(2, -1), UNKNOWN);
        }
        CHECK.due("no hall", new LampSwitches().shade(0, 0), UNKNOWN);
        LampSwitches y = Check.withHall("l55555;p111111");
        CHECK.due("lamp 4 of 5", y.shade(4, 4), 0);
        CHECK.due("lamp 5 of 5", y.shade(5, 4), UNKNOWN);
    }

    private static void turn() {
        CHECK.says("TURN of a SWITCH becomes v (1 .. 4): what it was. UNKNOWN; OUTSIDE.");
        LampSwitches x = Check.withHall("l5;p21;b31");
        for (int s = 0; s < 2; s++) {
            CHECK.due("to 1", x.turn(s, 1), 2 + s);
            CHECK.due("0", x.turn(s, 0), OUTSIDE);
            CHECK.due("5", x.turn(s, 5), OUTSIDE);
            CHECK.due("-1", x.turn(s, -1), OUTSIDE);
            CHECK.due("least", x.turn(s, LEAST), OUTSIDE);
            CHECK.due("most", x.turn(s, MOST), OUTSIDE);
            CHECK.due("to 4", x.turn(s, 4), 1);
            CHECK.due("4 again", x.turn(s, 4), 4);
            CHECK.due("turn", x.ofSwitch(s, 1), 4);
        }
        CHECK.due("switch -1", x.turn(-1, 1), UNKNOWN);
        CHECK.due("switch 2", x.turn(2, 1), UNKNOWN);
        CHECK.due("switch 2, turn 0", x.turn(2, 0), UNKNOWN);
        CHECK.due("no hall", new LampSwitches().turn(0, 1), UNKNOWN);
        LampSwitches y = Check.withHall(LARGEST);
        CHECK.due("switch 4 of 5", y.turn(4, 1), 4);
        CHECK.due("switch 5 of 5", y.turn(5, 1), UNKNOWN);
    }

    private static void wire() {
        CHECK.says("A SWITCH is wired to a LAMP, if it was not; else it is no more: 1, 0. UNKNOWN: SWITCH, LAMP.");
        LampSwitches x = Check.withHall("l22222;p100000;p111111;p100000;p100000;p100000");
        for (int l = 0; l < 5; l++) {
            CHECK.due("wired", x.wire(0, l), 1);
            CHECK.due("no more", x.wire(1, l), 0);
            CHECK.due("switches to it", x.ofLamp(l, 2), 1);
        }
        CHECK.due("to all", x.ofSwitch(0, 3), 31);
        CHECK.due("to none", x.ofSwitch(1, 3), 0);
        CHECK.due("the last switch, the last lamp", x.wire(4, 4), 1);
        CHECK.due("again", x.wire(4, 4), 0);
        CHECK.due("switch -1", x.wire(-1, 0), UNKNOWN);
        CHECK.due("switch 5", x.wire(5, 0), UNKNOWN);
        CHECK.due("lamp -1", x.wire(0, -1), UNKNOWN);
        CHECK.due("lamp 5", x.wire(0, 5), UNKNOWN);
        CHECK.due("both", x.wire(MOST, LEAST), UNKNOWN);
        LampSwitches y = Check.withHall("l222;p1111;p1111");
        CHECK.due("lamp 2, no such switch", y.wire(2, 2), UNKNOWN);
        CHECK.due("switch 1, no such lamp", y.wire(1, 3), UNKNOWN);
        CHECK.due("no hall", new LampSwitches().wire(0, 0), UNKNOWN);
    }
}
