/** Promises 21 to 25: sheet, lose, put, cell, copy. */
final class SheetTest {
    private static final Check CHECK = new Check("SheetTest");
    private static final int[] NO_SHEETS = {-1, 4, 5, Integer.MIN_VALUE, Integer.MAX_VALUE};
    private static final int[] NO_LANES = {-1, 3, Integer.MIN_VALUE, Integer.MAX_VALUE};

    public static void main(String[] args) {
        sheet();
        lose();
        put();
        cell();
        copy();
        copyOnItself();
        faultsOfCopy();
        CHECK.end();
    }

    private static void sheet() {
        LampSwitches x = new LampSwitches();
        for (int k = 0; k < 4; k++) {
            CHECK.dueWithFault("sheet " + k, x, x.sheet(k, k % 3, 60), 1);
            CHECK.due("0 at first", x.cell(k, 59, k % 3), 0);
        }
        CHECK.dueWithFault("of none", x, x.sheet(0, 0, 0), 1);
        CHECK.due("not lost", x.lose(0), 1);
        x.put(1, 0, 7);
        x.put(1, 9, 7);
        CHECK.dueWithFault("anew", x, x.sheet(1, 2, 10), 1);
        CHECK.due("0 again", x.cell(1, 0, 2), 0);
        CHECK.due("0 again", x.cell(1, 9, 2), 0);
        CHECK.due("no more", x.cell(1, 10, 2), Check.LOST);
        for (int k : NO_SHEETS) {
            CHECK.dueWithFault("sheet " + k, x, x.sheet(k, 9, -1), Check.UNKNOWN);
        }
        for (int lane : NO_LANES) {
            CHECK.dueWithFault("lane " + lane, x, x.sheet(0, lane, -1), Check.OUTSIDE);
        }
        CHECK.dueWithFault("61", x, x.sheet(1, 0, 61), Check.OUTSIDE);
        CHECK.dueWithFault("most", x, x.sheet(1, 0, Integer.MAX_VALUE), Check.OUTSIDE);
        CHECK.dueWithFault("-1", x, x.sheet(1, 0, -1), Check.SIZE);
        CHECK.dueWithFault("least", x, x.sheet(1, 0, Integer.MIN_VALUE), Check.SIZE);
        CHECK.due("as it was", x.cell(1, 9, 2), 0);
    }

    private static void lose() {
        LampSwitches x = new LampSwitches();
        CHECK.due("nothing", x.lose(2), 0);
        x.sheet(2, 0, 3);
        x.put(2, 3, 0);
        CHECK.due("something", x.lose(2), 1);
        CHECK.due("names no fault", x.fault(), 3);
        CHECK.due("nothing again", x.lose(2), 0);
        CHECK.dueWithFault("put", x, x.put(2, 0, 1), Check.NULL);
        for (int k : NO_SHEETS) {
            CHECK.due("lose(" + k + ")", x.lose(k), Check.UNKNOWN);
        }
    }

    private static void put() {
        LampSwitches x = new LampSwitches();
        CHECK.dueWithFault("nothing", x, x.put(0, -1, 0), Check.NULL);
        for (int k : NO_SHEETS) {
            CHECK.dueWithFault("sheet " + k, x, x.put(k, 0, 0), Check.UNKNOWN);
        }
        x.sheet(0, Check.BYTES, 4);
        x.sheet(1, Check.SHORTS, 4);
        x.sheet(2, Check.INTS, 4);
        int[] wide = {200, 40000, 0x12345678, Integer.MIN_VALUE};
        long[] bytes = {-56, 64, 0x78, 0};
        long[] shorts = {200, -25536, 0x5678, 0};
        for (int i = 0; i < 4; i++) {
            for (int k = 0; k < 3; k++) {
                CHECK.dueWithFault("put", x, x.put(k, i, wide[i]), 1);
            }
            CHECK.due("byte", x.cell(0, i, Check.BYTES), bytes[i]);
            CHECK.due("short", x.cell(1, i, Check.SHORTS), shorts[i]);
            CHECK.due("int", x.cell(2, i, Check.INTS), wide[i]);
        }
        for (int i : new int[] {-1, 4, Integer.MIN_VALUE, Integer.MAX_VALUE}) {
            CHECK.dueWithFault("put at " + i, x, x.put(0, i, 1), Check.INDEX);
        }
        x.sheet(0, 0, 0);
        CHECK.dueWithFault("of none", x, x.put(0, 0, 1), Check.INDEX);
    }

    private static void lost(LampSwitches x, String name, long got, int fault) {
        CHECK.due(name, got, Check.LOST);
        CHECK.due("fault() of " + name, x.fault(), fault);
    }

    private static void cell() {
        LampSwitches x = new LampSwitches();
        x.put(0, 0, 0);
        for (int k : NO_SHEETS) {
            lost(x, "sheet " + k, x.cell(k, 0, 0), 0);
        }
        x.put(0, 0, 0);
        for (int lane : NO_LANES) {
            lost(x, "lane " + lane, x.cell(0, 0, lane), 0);
        }
        lost(x, "nothing", x.cell(0, -1, 2), 1);
        x.sheet(0, 1, 3);
        x.put(0, 2, -5);
        lost(x, "of bytes", x.cell(0, -1, 0), 2);
        lost(x, "of ints", x.cell(0, 0, 2), 2);
        lost(x, "behind", x.cell(0, 3, 1), 3);
        lost(x, "ahead", x.cell(0, -1, 1), 3);
        lost(x, "far behind", x.cell(0, Integer.MAX_VALUE, 1), 3);
        CHECK.due("cell", x.cell(0, 2, 1), -5);
        CHECK.due("no fault", x.fault(), 0);
    }

    private static void dueCells(LampSwitches x, String name, int k, int lane, int... cells) {
        for (int i = 0; i < cells.length; i++) {
            CHECK.due("cell " + i + " of " + name, x.cell(k, i, lane), cells[i]);
        }
        CHECK.due("end of " + name, x.cell(k, cells.length, lane), Check.LOST);
    }

    private static void copy() {
        LampSwitches x = new LampSwitches();
        Check.write(x, 0, Check.BYTES, 1, 2, 3, 4, 5);
        Check.write(x, 1, Check.BYTES, 6, 7, 8);
        CHECK.dueWithFault("copy of two", x, x.copy(0, 3, 1, 0, 2), 2);
        dueCells(x, "the other", 1, Check.BYTES, 4, 5, 8);
        dueCells(x, "the first", 0, Check.BYTES, 1, 2, 3, 4, 5);
        CHECK.dueWithFault("copy of all", x, x.copy(1, 0, 0, 2, 3), 3);
        dueCells(x, "the first", 0, Check.BYTES, 1, 2, 4, 5, 8);
        CHECK.dueWithFault("copy of none", x, x.copy(0, 5, 1, 3, 0), 0);
        dueCells(x, "the other", 1, Check.BYTES, 4, 5, 8);
    }

    private static void copyOnItself() {
        LampSwitches x = new LampSwitches();
        Check.write(x, 3, Check.INTS, 1, 2, 3, 4, 5);
        CHECK.dueWithFault("on", x, x.copy(3, 0, 3, 1, 4), 4);
        dueCells(x, "on", 3, Check.INTS, 1, 1, 2, 3, 4);
        CHECK.dueWithFault("back", x, x.copy(3, 2, 3, 0, 3), 3);
        dueCells(x, "back", 3, Check.INTS, 2, 3, 4, 3, 4);
    }

    private static void faultsOfCopy() {
        LampSwitches x = new LampSwitches();
        for (int k : NO_SHEETS) {
            CHECK.dueWithFault("from " + k, x, x.copy(k, -1, 0, -1, -1), Check.UNKNOWN);
            CHECK.dueWithFault("to " + k, x, x.copy(0, -1, k, -1, -1), Check.UNKNOWN);
        }
        x.sheet(1, Check.SHORTS, 3);
        CHECK.dueWithFault("first is nothing", x, x.copy(0, -1, 1, -1, -1), Check.NULL);
        CHECK.dueWithFault("other is nothing", x, x.copy(1, -1, 0, -1, -1), Check.NULL);
        x.sheet(0, Check.BYTES, 4);
        CHECK.dueWithFault("unlike lanes", x, x.copy(0, -1, 1, -1, -1), Check.CAST);
        Check.write(x, 0, Check.SHORTS, 1, 2, 3, 4);
        int far = Integer.MAX_VALUE;
        int[][] beyond = {{-1, 0, 1}, {0, -1, 1}, {0, 0, -1}, {0, 0, 4}, {2, 0, 3}, {0, 1, 3}, {5, 0, 0}, {0, 4, 0},
            {far, 0, 1}, {0, far, 1}, {1, 1, far}, {far, far, far}, {-1, 0, 0}, {0, -1, 0}, {1, 1, -1}};
        for (int[] at : beyond) {
            CHECK.dueWithFault("beyond", x, x.copy(0, at[0], 1, at[1], at[2]), Check.INDEX);
        }
        dueCells(x, "the other", 1, Check.SHORTS, 0, 0, 0);
    }
}
