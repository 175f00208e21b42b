/** Promises 1 to 7: a new object, hall, ofLamp, ofSwitch, shade, turn, wire. */
final class HallTest {
    private static final Check CHECK = new Check("HallTest");
    private static final String TEXT = "l2345;p11101;b20110;d31001;p40000";

    public static void main(String[] args) {
        newObject();
        textsThatAreTaken();
        firstFaults();
        refusalsAndFaultsOfHall();
        allAnew();
        ofLamp();
        ofSwitch();
        shade();
        turn();
        wire();
        CHECK.end();
    }

    private static void newObject() {
        LampSwitches x = new LampSwitches();
        for (int what = 0; what <= 4; what++) {
            CHECK.due("many(" + what + ")", x.many(what), 0);
        }
        CHECK.due("ofLamp", x.ofLamp(0, 0), Check.UNKNOWN);
        CHECK.due("ofSwitch", x.ofSwitch(0, 0), Check.UNKNOWN);
        for (int k = 0; k < 4; k++) {
            CHECK.due("lose(" + k + ")", x.lose(k), 0);
        }
        CHECK.due("trace", x.trace(), 0);
        CHECK.due("fault", x.fault(), 0);
    }

    private static void textsThatAreTaken() {
        LampSwitches x = new LampSwitches();
        CHECK.due("shortest", Check.take(x, "l2;p11"), 1);
        CHECK.due("longest", Check.take(x, "l55555;p400000;b411111;d110101;p100000;p111111"), 5);
        CHECK.due("lamps", x.many(0), 5);
        CHECK.due("switches", x.many(1), 5);
        Check.write(x, 1, Check.INTS, 7, 7, 'l', '3', ';', 'b', '2', '1', 7);
        CHECK.dueWithFault("from 2 on", x, x.hall(1, Check.INTS, 2, 6), 1);
        CHECK.due("shades", x.ofLamp(0, 0), 3);
        CHECK.due("kind", x.ofSwitch(0, 0), 1);
        Check.write(x, 3, Check.SHORTS, 'l', '4', ';', 'd', '1', '0');
        CHECK.due("of shorts", x.hall(3, Check.SHORTS, 0, 6), 1);
        CHECK.due("shades", x.ofLamp(0, 0), 4);
    }

    private static void firstFaults() {
        LampSwitches x = Check.withHall("l33;p111");
        firstFault(x, "", 0);
        firstFault(x, "x", 0);
        firstFault(x, "2", 0);
        firstFault(x, "l", 1);
        firstFault(x, "l;", 1);
        firstFault(x, "l1", 1);
        firstFault(x, "l6", 1);
        firstFault(x, "l21", 2);
        firstFault(x, "l22222", 6);
        firstFault(x, "l222222", 6);
        firstFault(x, "l22222:", 6);
        firstFault(x, "l2;", 3);
        firstFault(x, "l2;;", 3);
        firstFault(x, "l2;P11", 3);
        firstFault(x, "l2;b", 4);
        firstFault(x, "l2;b0", 4);
        firstFault(x, "l2;d5", 4);
        firstFault(x, "l22;d4", 6);
        firstFault(x, "l22;d42", 6);
        firstFault(x, "l22;d41", 7);
        firstFault(x, "l22;d41;", 7);
        firstFault(x, "l22;d411/", 8);
        firstFault(x, "l22;d4110", 8);
        firstFault(x, "l2;p11;", 7);
        firstFault(x, "l2;p11;p11;p11;p11;p11;", 22);
        firstFault(x, "l2;p11;p11;p11;p11;p11;p11", 22);
        firstFault(x, "l2;p11;p11;p11;p11;p110", 22);
        Check.write(x, 0, Check.INTS, 'l', '2' + 256, ';', 'p', '1', '1');
        CHECK.due("code beyond a byte", x.hall(0, Check.INTS, 0, 6), -101);
        Check.write(x, 0, Check.INTS, 'l', '2', ';', 'p', '1', -1);
        CHECK.due("code -1", x.hall(0, Check.INTS, 0, 6), -105);
        firstFault(x, "l22222" + ";p111111".repeat(5) + "0".repeat(14), 46);
        CHECK.due("hall as it was", x.ofLamp(1, 0), 3);
    }

    private static void firstFault(LampSwitches x, String text, int place) {
        CHECK.dueWithFault("hall of " + text, x, Check.take(x, text), -100 - place);
        CHECK.due("lamps behind " + text, x.many(0), 2);
    }

    private static void refusalsAndFaultsOfHall() {
        LampSwitches x = new LampSwitches();
        for (int k : new int[] {-1, 4, Integer.MIN_VALUE, Integer.MAX_VALUE}) {
            CHECK.dueWithFault("sheet " + k, x, x.hall(k, 9, -1, -1), Check.UNKNOWN);
        }
        for (int lane : new int[] {-1, 3, Integer.MIN_VALUE, Integer.MAX_VALUE}) {
            CHECK.dueWithFault("lane " + lane, x, x.hall(0, lane, -1, -1), Check.OUTSIDE);
        }
        CHECK.dueWithFault("nothing", x, x.hall(0, 2, -1, -1), Check.NULL);
        Check.write(x, 0, Check.BYTES, "l2;p11".chars().toArray());
        CHECK.dueWithFault("other lane", x, x.hall(0, 2, -1, -1), Check.CAST);
        CHECK.dueWithFault("n below 0", x, x.hall(0, 0, -1, -1), Check.SIZE);
        CHECK.dueWithFault("n lowest", x, x.hall(0, 0, 0, Integer.MIN_VALUE), Check.SIZE);
        CHECK.dueWithFault("i below 0", x, x.hall(0, 0, -1, 6), Check.INDEX);
        CHECK.dueWithFault("one too many", x, x.hall(0, 0, 0, 7), Check.INDEX);
        CHECK.dueWithFault("one too far", x, x.hall(0, 0, 1, 6), Check.INDEX);
        CHECK.dueWithFault("far too many", x, x.hall(0, 0, 1, Integer.MAX_VALUE), Check.INDEX);
        CHECK.dueWithFault("far too far", x, x.hall(0, 0, Integer.MAX_VALUE, 1), Check.INDEX);
        CHECK.dueWithFault("none, just behind", x, x.hall(0, 0, 6, 0), -100);
        CHECK.dueWithFault("none, beyond", x, x.hall(0, 0, 7, 0), Check.INDEX);
        CHECK.dueWithFault("none, ahead", x, x.hall(0, 0, -1, 0), Check.INDEX);
        CHECK.due("no hall", x.many(0), 0);
        CHECK.dueWithFault("all of it", x, x.hall(0, 0, 0, 6), 1);
    }

    private static void allAnew() {
        LampSwitches x = Check.withHall(TEXT);
        x.press(0, 1);
        x.shade(3, 4);
        x.wire(3, 0);
        x.turn(1, 4);
        x.reading(0, 0, 1);
        x.tell(0);
        CHECK.due("taken again", Check.take(x, TEXT), 4);
        CHECK.dueShades("anew", x, 0, 0, 0, 0);
        CHECK.due("presses of 0", x.ofSwitch(0, 4), 0);
        CHECK.due("presses", x.many(3), 0);
        CHECK.due("readings", x.many(4), 0);
        CHECK.due("wires", x.ofSwitch(3, 3), 0);
        CHECK.due("turn", x.ofSwitch(1, 1), 2);
        CHECK.due("trace stays", x.trace(), 1);
        CHECK.due("sheet stays", x.cell(0, 0, 0), 'l');
        x.halls();
        CHECK.due("smaller", Check.take(x, "l5;b41"), 1);
        CHECK.due("lamps", x.many(0), 1);
        CHECK.due("switches", x.many(1), 1);
        CHECK.due("lamp 1", x.ofLamp(1, 0), Check.UNKNOWN);
        CHECK.due("switch 1", x.ofSwitch(1, 0), Check.UNKNOWN);
        CHECK.due("halls of the smaller", x.halls(), 1);
    }

    private static void ofLamp() {
        LampSwitches x = Check.withHall(TEXT);
        x.shade(3, 4);
        int[][] want = {{2, 0, 0b101}, {3, 0, 0b011}, {4, 0, 0b010}, {5, 4, 0b101}};
        for (int l = 0; l < 4; l++) {
            for (int what = 0; what < 3; what++) {
                CHECK.due("ofLamp(" + l + ", " + what + ")", x.ofLamp(l, what), want[l][what]);
            }
            CHECK.due("ofLamp what 3", x.ofLamp(l, 3), Check.OUTSIDE);
            CHECK.due("ofLamp what -1", x.ofLamp(l, -1), Check.OUTSIDE);
        }
        CHECK.due("ofLamp(4, 9)", x.ofLamp(4, 9), Check.UNKNOWN);
        for (int l : Check.NOWHERE) {
            CHECK.due("ofLamp(" + l + ", 0)", x.ofLamp(l, 0), Check.UNKNOWN);
        }
    }

    private static void ofSwitch() {
        LampSwitches x = Check.withHall(TEXT);
        x.press(2, 99);
        x.press(2, 2);
        int[][] want = {{0, 1, 1, 0b1011, 0}, {1, 2, 3, 0b0110, 0}, {2, 3, 6, 0b1001, 101}, {0, 4, 4, 0, 0}};
        for (int s = 0; s < 4; s++) {
            for (int what = 0; what < 5; what++) {
                CHECK.due("ofSwitch(" + s + ", " + what + ")", x.ofSwitch(s, what), want[s][what]);
            }
            CHECK.due("ofSwitch what 5", x.ofSwitch(s, 5), Check.OUTSIDE);
            CHECK.due("ofSwitch what -1", x.ofSwitch(s, -1), Check.OUTSIDE);
        }
        CHECK.due("ofSwitch(4, 9)", x.ofSwitch(4, 9), Check.UNKNOWN);
        for (int s : Check.NOWHERE) {
            CHECK.due("ofSwitch(" + s + ", 0)", x.ofSwitch(s, 0), Check.UNKNOWN);
        }
    }

    private static void shade() {
        LampSwitches x = Check.withHall(TEXT);
        for (int l = 0; l < 4; l++) {
            CHECK.due("to the last", x.shade(l, l + 1), 0);
            CHECK.due("beyond", x.shade(l, l + 2), Check.OUTSIDE);
            CHECK.due("below", x.shade(l, -1), Check.OUTSIDE);
        }
        CHECK.dueShades("shaded", x, 1, 2, 3, 4);
        CHECK.due("what it was", x.shade(3, 1), 4);
        CHECK.due("again", x.shade(3, 0), 1);
        CHECK.due("lamp 4", x.shade(4, 9), Check.UNKNOWN);
        for (int l : Check.NOWHERE) {
            CHECK.due("shade(" + l + ", 0)", x.shade(l, 0), Check.UNKNOWN);
        }
    }

    private static void turn() {
        LampSwitches x = Check.withHall(TEXT);
        CHECK.due("turn(0, 4)", x.turn(0, 4), 1);
        CHECK.due("turn(0, 1)", x.turn(0, 1), 4);
        CHECK.due("turn(1, 4)", x.turn(1, 4), 2);
        CHECK.due("turn(2, 4)", x.turn(2, 4), 3);
        CHECK.due("moves of plain", x.ofSwitch(0, 2), 1);
        CHECK.due("moves of broad", x.ofSwitch(1, 2), 5);
        CHECK.due("moves of double", x.ofSwitch(2, 2), 8);
        for (int v : new int[] {0, 5, -1, Integer.MIN_VALUE, Integer.MAX_VALUE}) {
            CHECK.due("turn(0, " + v + ")", x.turn(0, v), Check.OUTSIDE);
        }
        CHECK.due("as it was", x.ofSwitch(0, 1), 1);
        CHECK.due("turn(4, 9)", x.turn(4, 9), Check.UNKNOWN);
        for (int s : Check.NOWHERE) {
            CHECK.due("turn(" + s + ", 1)", x.turn(s, 1), Check.UNKNOWN);
        }
    }

    private static void wire() {
        LampSwitches x = Check.withHall(TEXT);
        CHECK.due("wire(3, 2)", x.wire(3, 2), 1);
        CHECK.due("wires of 3", x.ofSwitch(3, 3), 0b100);
        CHECK.due("switches to 2", x.ofLamp(2, 2), 0b1010);
        CHECK.due("wire(0, 0)", x.wire(0, 0), 0);
        CHECK.due("wires of 0", x.ofSwitch(0, 3), 0b1010);
        CHECK.due("wire(0, 0)", x.wire(0, 0), 1);
        CHECK.due("wires of 0", x.ofSwitch(0, 3), 0b1011);
        CHECK.due("wire(4, 0)", x.wire(4, 0), Check.UNKNOWN);
        CHECK.due("wire(0, 4)", x.wire(0, 4), Check.UNKNOWN);
        for (int none : Check.NOWHERE) {
            CHECK.due("wire(" + none + ", 0)", x.wire(none, 0), Check.UNKNOWN);
            CHECK.due("wire(0, " + none + ")", x.wire(0, none), Check.UNKNOWN);
        }
        CHECK.due("no press by wiring", x.many(3), 0);
    }
}
