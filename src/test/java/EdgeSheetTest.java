/** The edges that the document names of sheets and lanes: Terms 5, promises 21 to 25. */
final class EdgeSheetTest {
    private static final Check CHECK = new Check("EdgeSheetTest");
    private static final int NULL = Check.NULL, CAST = Check.CAST, INDEX = Check.INDEX, SIZE = Check.SIZE;
    private static final int UNKNOWN = Check.UNKNOWN, OUTSIDE = Check.OUTSIDE;
    private static final int BYTES = Check.BYTES, SHORTS = Check.SHORTS, INTS = Check.INTS;
    private static final int LEAST = Check.LEAST, MOST = Check.MOST;
    private static final int[] NO_SHEETS = {-1, 4, LEAST, MOST};
    private static final int[] NO_LANES = {-1, 3, LEAST, MOST};

    public static void main(String[] args) {
        sheetsAndTheirLengths();
        zeroAtFirst();
        cutToItsLane();
        sheetRefused();
        lose();
        put();
        putRefused();
        cell();
        cellRefused();
        copy();
        copyOfAll();
        copyOfNone();
        copyAsTheyWere();
        copyOfNothing();
        copyOfUnlikeLanes();
        copyBeyond();
        CHECK.end();
    }

    private static void sheetsAndTheirLengths() {
        CHECK.says("SHEETS 0 .. 3 have nothing (at first), or a row of 0 .. 60 numbers (0 at first) of a LANE");
        for (int k = 0; k < 4; k++) {
            for (int lane = 0; lane < 3; lane++) {
                for (int n : new int[] {0, 1, 59, 60}) {
                    LampSwitches x = new LampSwitches();
                    CHECK.dueWithFault("sheet(" + k + ", " + lane + ", " + n + ")", x, x.sheet(k, lane, n), 1);
                    CHECK.dueCells("of " + n, x, k, lane, new int[n]);
                    for (int other = 0; other < 4; other++) {
                        CHECK.due("lose(" + other + ")", x.lose(other), other == k ? 1 : 0);
                    }
                }
            }
        }
    }

    private static void zeroAtFirst() {
        CHECK.says("A SHEET gets a new row: 1.");
        LampSwitches x = new LampSwitches();
        x.sheet(1, INTS, 60);
        for (int i = 0; i < 60; i++) {
            x.put(1, i, -1 - i);
        }
        CHECK.due("a shorter row", x.sheet(1, INTS, 2), 1);
        CHECK.dueCells("of the shorter row", x, 1, INTS, 0, 0);
        CHECK.due("a longer row", x.sheet(1, INTS, 60), 1);
        CHECK.dueCells("of the longer row", x, 1, INTS, new int[60]);
        x.put(1, 59, 7);
        CHECK.due("a row of another lane", x.sheet(1, BYTES, 60), 1);
        CHECK.dueCells("of another lane", x, 1, BYTES, new int[60]);
        CHECK.due("no more of the lane that it was", x.cell(1, 0, INTS), Check.LOST);
        CHECK.due("its fault", x.fault(), 2);
        LampSwitches y = new LampSwitches();
        Check.write(y, 2, SHORTS, 5, 5, 5);
        y.lose(2);
        y.sheet(2, SHORTS, 4);
        CHECK.dueCells("of a row behind one that was lost", y, 2, SHORTS, 0, 0, 0, 0);
    }

    private static void cutToItsLane() {
        CHECK.says("0 bytes, 1 shorts, 2 ints; what comes to a cell of it is cut to its LANE");
        int[][] cut = {{0, 0, 0}, {127, 127, 127}, {128, -128, 128}, {255, -1, 255}, {256, 0, 256}, {-1, -1, -1},
            {-128, -128, -128}, {-129, 127, -129}, {32767, -1, 32767}, {32768, 0, -32768}, {65535, -1, -1},
            {65536, 0, 0}, {-32768, 0, -32768}, {-32769, -1, 32767}, {MOST, -1, -1}, {LEAST, 0, 0},
            {0x12345678, 0x78, 0x5678}, {0x89ABCDEF, 0xFFFFFFEF, 0xFFFFCDEF}};
        LampSwitches x = new LampSwitches();
        for (int lane = 0; lane < 3; lane++) {
            x.sheet(lane, lane, 1);
        }
        for (int[] row : cut) {
            int[] want = {row[1], row[2], row[0]};
            for (int lane = 0; lane < 3; lane++) {
                CHECK.due("put of " + row[0], x.put(lane, 0, row[0]), 1);
                CHECK.due(row[0] + " in lane " + lane, x.cell(lane, 0, lane), want[lane]);
            }
        }
    }

    private static void sheetRefused() {
        CHECK.says("UNKNOWN; OUTSIDE: lane, n above 60; SIZE.");
        LampSwitches x = new LampSwitches();
        Check.write(x, 1, SHORTS, 7, 8);
        for (int k : NO_SHEETS) {
            CHECK.dueWithFault("sheet " + k, x, x.sheet(k, 0, 1), UNKNOWN);
            CHECK.dueWithFault("sheet " + k + ", lane 3, n -1", x, x.sheet(k, 3, -1), UNKNOWN);
            CHECK.dueWithFault("sheet " + k + ", lane -1, n 61", x, x.sheet(k, -1, 61), UNKNOWN);
        }
        for (int lane : NO_LANES) {
            for (int n : new int[] {0, 60, 61, -1, LEAST}) {
                CHECK.dueWithFault("lane " + lane + ", n " + n, x, x.sheet(1, lane, n), OUTSIDE);
            }
        }
        for (int lane = 0; lane < 3; lane++) {
            for (int n : new int[] {61, 62, MOST}) {
                CHECK.dueWithFault("n " + n, x, x.sheet(1, lane, n), OUTSIDE);
            }
            for (int n : new int[] {-1, -2, LEAST}) {
                CHECK.dueWithFault("n " + n, x, x.sheet(1, lane, n), SIZE);
            }
        }
        CHECK.dueCells("as it was", x, 1, SHORTS, 7, 8);
        x.sheet(2, BYTES, 61);
        x.sheet(2, BYTES, -1);
        x.sheet(2, 3, 1);
        CHECK.due("nothing as it was", x.lose(2), 0);
    }

    private static void lose() {
        CHECK.says("A SHEET has nothing: 1; 0: it had nothing. UNKNOWN.");
        LampSwitches x = new LampSwitches();
        for (int k = 0; k < 4; k++) {
            CHECK.due("nothing at first", x.lose(k), 0);
            x.sheet(k, k % 3, k == 0 ? 0 : 60);
        }
        for (int k : NO_SHEETS) {
            CHECK.due("lose(" + k + ")", x.lose(k), UNKNOWN);
        }
        for (int k = 0; k < 4; k++) {
            CHECK.due("a row", x.lose(k), 1);
            CHECK.due("nothing", x.lose(k), 0);
            CHECK.due("nothing again", x.lose(k), 0);
            CHECK.dueWithFault("put", x, x.put(k, 0, 1), NULL);
        }
        x.sheet(1, BYTES, 1);
        x.sheet(2, BYTES, 1);
        x.lose(1);
        CHECK.due("another's row stays", x.lose(2), 1);
        LampSwitches y = Check.withHall("l2;p11");
        CHECK.due("the sheet of the text", y.lose(0), 1);
        CHECK.due("the hall stays", y.halls(), 2);
    }

    private static void put() {
        CHECK.says("Cell i of a SHEET becomes v: 1.");
        for (int lane = 0; lane < 3; lane++) {
            LampSwitches x = new LampSwitches();
            x.sheet(3, lane, 60);
            x.sheet(2, lane, 60);
            int[] cells = new int[60];
            for (int i : new int[] {0, 59, 30, 59}) {
                cells[i] += i + 1;
                CHECK.dueWithFault("cell " + i, x, x.put(3, i, cells[i]), 1);
            }
            CHECK.dueCells("all of it", x, 3, lane, cells);
            CHECK.dueCells("another's", x, 2, lane, new int[60]);
        }
    }

    private static void putRefused() {
        CHECK.says("UNKNOWN; NULL; INDEX.");
        for (int lane = 0; lane < 3; lane++) {
            LampSwitches x = new LampSwitches();
            for (int k : NO_SHEETS) {
                CHECK.dueWithFault("sheet " + k, x, x.put(k, 0, 1), UNKNOWN);
                CHECK.dueWithFault("sheet " + k + ", i -1", x, x.put(k, -1, 1), UNKNOWN);
            }
            for (int i : new int[] {0, 1, -1, LEAST, MOST}) {
                CHECK.dueWithFault("nothing, i " + i, x, x.put(0, i, 1), NULL);
            }
            for (int n : new int[] {0, 1, 60}) {
                x.sheet(0, lane, n);
                for (int i : new int[] {-1, n, n + 1, LEAST, MOST}) {
                    CHECK.dueWithFault("i " + i + " of " + n, x, x.put(0, i, 1), INDEX);
                }
                CHECK.dueCells("as they were", x, 0, lane, new int[n]);
            }
        }
    }

    private static void cell() {
        CHECK.says("Cell i of what a SHEET has, taken as a row of a LANE.");
        for (int lane = 0; lane < 3; lane++) {
            LampSwitches x = new LampSwitches();
            x.sheet(0, lane, 60);
            x.put(0, 0, -5);
            x.put(0, 59, 6);
            CHECK.dueWithFault("the first", x, x.cell(0, 0, lane), -5);
            CHECK.dueWithFault("the last", x, x.cell(0, 59, lane), 6);
            CHECK.dueWithFault("one between", x, x.cell(0, 58, lane), 0);
        }
        LampSwitches y = new LampSwitches();
        Check.write(y, 0, INTS, LEAST, MOST, -11, -14);
        CHECK.due("the least int", y.cell(0, 0, INTS), LEAST);
        CHECK.due("no fault", y.fault(), 0);
        CHECK.due("the most int", y.cell(0, 1, INTS), MOST);
        CHECK.due("a number that looks like a fault", y.cell(0, 2, INTS), -11);
        CHECK.due("is none", y.fault(), 0);
    }

    private static void lost(LampSwitches x, String name, long got, int fault) {
        CHECK.due(name, got, Check.LOST);
        CHECK.due("fault() of " + name, x.fault(), fault);
    }

    private static void cellRefused() {
        CHECK.says("LOST: UNKNOWN, OUTSIDE: lane; FAULTS CAST (nothing is no CAST), NULL, INDEX.");
        LampSwitches x = new LampSwitches();
        for (int k : NO_SHEETS) {
            x.put(0, 0, 0);
            lost(x, "sheet " + k, x.cell(k, -1, 0), 0);
            x.put(0, 0, 0);
            lost(x, "sheet " + k + ", lane 3", x.cell(k, -1, 3), 0);
        }
        for (int lane : NO_LANES) {
            x.put(0, 0, 0);
            lost(x, "lane " + lane + " of nothing", x.cell(0, -1, lane), 0);
        }
        for (int lane = 0; lane < 3; lane++) {
            for (int i : new int[] {-1, 0, 1, LEAST, MOST}) {
                lost(x, "nothing as lane " + lane, x.cell(0, i, lane), 1);
            }
        }
        for (int had = 0; had < 3; had++) {
            for (int n : new int[] {0, 1, 60}) {
                LampSwitches y = new LampSwitches();
                y.sheet(0, had, n);
                for (int lane = 0; lane < 3; lane++) {
                    for (int i : new int[] {-1, n, n + 1, LEAST, MOST}) {
                        lost(y, "lane " + had + " as " + lane + ", i " + i, y.cell(0, i, lane), lane == had ? 3 : 2);
                    }
                    if (lane != had && n > 0) {
                        lost(y, "lane " + had + " as " + lane + ", i 0", y.cell(0, 0, lane), 2);
                    }
                }
                for (int lane : NO_LANES) {
                    y.put(1, 0, 0);
                    lost(y, "a row as lane " + lane, y.cell(0, -1, lane), 0);
                }
            }
        }
    }

    private static void copy() {
        CHECK.says("n cells of a SHEET from i on go to another one (perhaps the same) from j on, as they were: n.");
        for (int lane = 0; lane < 3; lane++) {
            LampSwitches x = new LampSwitches();
            Check.write(x, 0, lane, 1, 2, 3, 4);
            Check.write(x, 3, lane, 5, 6, 7);
            CHECK.dueWithFault("the first to the last", x, x.copy(0, 0, 3, 2, 1), 1);
            CHECK.dueCells("by it", x, 3, lane, 5, 6, 1);
            CHECK.dueWithFault("the last two to the first", x, x.copy(0, 2, 3, 0, 2), 2);
            CHECK.dueCells("by it", x, 3, lane, 3, 4, 1);
            CHECK.dueCells("what was copied", x, 0, lane, 1, 2, 3, 4);
            CHECK.dueWithFault("a whole row", x, x.copy(3, 0, 0, 1, 3), 3);
            CHECK.dueCells("by it", x, 0, lane, 1, 3, 4, 1);
            x.put(0, 0, 9);
            CHECK.dueCells("cells, not the row", x, 3, lane, 3, 4, 1);
        }
    }

    private static void copyOfAll() {
        CHECK.says("go to another one (perhaps the same)");
        LampSwitches x = new LampSwitches();
        int[] cells = new int[60];
        x.sheet(1, INTS, 60);
        for (int i = 0; i < 60; i++) {
            cells[i] = MOST - i;
            x.put(1, i, cells[i]);
        }
        x.sheet(2, INTS, 60);
        CHECK.dueWithFault("60 cells", x, x.copy(1, 0, 2, 0, 60), 60);
        CHECK.dueCells("by it", x, 2, INTS, cells);
        CHECK.dueWithFault("61 cells", x, x.copy(1, 0, 2, 0, 61), INDEX);
        CHECK.dueWithFault("60 cells to where they are", x, x.copy(1, 0, 1, 0, 60), 60);
        CHECK.dueCells("by it", x, 1, INTS, cells);
    }

    private static void copyOfNone() {
        CHECK.says("INDEX (of cells from i on also where i is not 0 .. how many there are, if none of them is taken, too)");
        LampSwitches x = new LampSwitches();
        Check.write(x, 0, BYTES, 1, 2, 3);
        x.sheet(1, BYTES, 0);
        CHECK.dueWithFault("none to none", x, x.copy(1, 0, 1, 0, 0), 0);
        CHECK.dueWithFault("none to none of others", x, x.copy(1, 0, 0, 0, 0), 0);
        CHECK.dueWithFault("none from behind the last", x, x.copy(0, 3, 1, 0, 0), 0);
        CHECK.dueWithFault("none to behind the last", x, x.copy(1, 0, 0, 3, 0), 0);
        for (int i : new int[] {4, -1, LEAST, MOST}) {
            CHECK.dueWithFault("none from " + i + " on", x, x.copy(0, i, 1, 0, 0), INDEX);
            CHECK.dueWithFault("none to " + i, x, x.copy(1, 0, 0, i, 0), INDEX);
            CHECK.dueWithFault("none of none from " + i + " on", x, x.copy(1, i, 0, 0, 0), INDEX);
        }
        CHECK.dueWithFault("one of none", x, x.copy(1, 0, 0, 0, 1), INDEX);
        CHECK.dueWithFault("one to none", x, x.copy(0, 0, 1, 0, 1), INDEX);
        CHECK.dueCells("as they were", x, 0, BYTES, 1, 2, 3);
    }

    private static void copyAsTheyWere() {
        CHECK.says("from j on, as they were: n.");
        int[][] ups = {{0, 1, 4}, {0, 2, 3}, {1, 2, 3}, {0, 0, 5}};
        int[][] want = {{1, 1, 2, 3, 4}, {1, 2, 1, 2, 3}, {1, 2, 2, 3, 4}, {1, 2, 3, 4, 5}};
        int[][] back = {{2, 3, 4, 5, 5}, {3, 4, 5, 4, 5}, {1, 3, 4, 5, 5}, {1, 2, 3, 4, 5}};
        for (int at = 0; at < ups.length; at++) {
            for (int lane = 0; lane < 3; lane++) {
                LampSwitches x = new LampSwitches();
                Check.write(x, 2, lane, 1, 2, 3, 4, 5);
                CHECK.dueWithFault("on", x, x.copy(2, ups[at][0], 2, ups[at][1], ups[at][2]), ups[at][2]);
                CHECK.dueCells("on", x, 2, lane, want[at]);
                Check.write(x, 2, lane, 1, 2, 3, 4, 5);
                CHECK.dueWithFault("back", x, x.copy(2, ups[at][1], 2, ups[at][0], ups[at][2]), ups[at][2]);
                CHECK.dueCells("back", x, 2, lane, back[at]);
            }
        }
    }

    private static void copyOfNothing() {
        CHECK.says("UNKNOWN; FAULTS NULL (the first, the other), CAST (unlike LANES), INDEX");
        LampSwitches x = new LampSwitches();
        x.sheet(0, BYTES, 3);
        x.sheet(1, INTS, 3);
        for (int k : NO_SHEETS) {
            for (int other : new int[] {0, 1, 3, k}) {
                CHECK.dueWithFault(k + " to " + other, x, x.copy(k, -1, other, -1, -1), UNKNOWN);
                CHECK.dueWithFault(other + " to " + k, x, x.copy(other, -1, k, -1, -1), UNKNOWN);
                CHECK.dueWithFault(other + " to " + k + ", one cell", x, x.copy(other, 0, k, 0, 1), UNKNOWN);
            }
        }
        for (int n : new int[] {0, 1, -1, 60}) {
            CHECK.dueWithFault("the first is nothing", x, x.copy(3, 0, 0, 0, n), NULL);
            CHECK.dueWithFault("the other is nothing", x, x.copy(0, 0, 3, 0, n), NULL);
            CHECK.dueWithFault("the other is nothing, of ints", x, x.copy(1, -1, 3, -1, n), NULL);
            CHECK.dueWithFault("both are nothing", x, x.copy(2, 0, 3, 0, n), NULL);
            CHECK.dueWithFault("nothing to itself", x, x.copy(2, 0, 2, 0, n), NULL);
        }
    }

    private static void copyOfUnlikeLanes() {
        CHECK.says("CAST (unlike LANES), INDEX");
        for (int lane = 0; lane < 3; lane++) {
            for (int other = 0; other < 3; other++) {
                LampSwitches x = new LampSwitches();
                x.sheet(0, lane, 3);
                x.sheet(1, other, 3);
                boolean like = lane == other;
                CHECK.dueWithFault("one cell", x, x.copy(0, 0, 1, 0, 1), like ? 1 : CAST);
                CHECK.dueWithFault("no cell", x, x.copy(0, 0, 1, 0, 0), like ? 0 : CAST);
                CHECK.dueWithFault("-1 cells", x, x.copy(0, -1, 1, 4, -1), like ? INDEX : CAST);
                CHECK.dueWithFault("four cells", x, x.copy(0, 0, 1, 0, 4), like ? INDEX : CAST);
            }
        }
    }

    private static void copyBeyond() {
        CHECK.says("INDEX: i, j, n below 0 or beyond.");
        int[][] beyond = {{-1, 0, 1}, {0, -1, 1}, {0, 0, -1}, {0, 0, 4}, {3, 0, 2}, {0, 3, 1}, {2, 0, 3}, {0, 1, 3},
            {4, 0, 1}, {5, 0, 1}, {0, 4, 1}, {4, 3, 1}, {LEAST, 0, 1}, {0, LEAST, 1}, {0, 0, LEAST}, {MOST, 0, 1},
            {0, MOST, 1}, {0, 0, MOST}, {1, 1, MOST}, {MOST, MOST, MOST}, {MOST, MOST, 1}, {-1, -1, 2}, {2, 2, -1},
            {4, 3, -1}, {LEAST, LEAST, LEAST}, {-1, 0, 0}, {0, -1, 0}};
        LampSwitches x = new LampSwitches();
        Check.write(x, 0, SHORTS, 1, 2, 3, 4);
        Check.write(x, 1, SHORTS, 5, 6, 7);
        for (int[] at : beyond) {
            CHECK.dueWithFault("copy from " + at[0] + " to " + at[1] + " of " + at[2], x,
                x.copy(0, at[0], 1, at[1], at[2]), INDEX);
            CHECK.dueWithFault("and the other way", x, x.copy(1, at[1], 0, at[0], at[2]), INDEX);
        }
        CHECK.dueCells("as they were", x, 0, SHORTS, 1, 2, 3, 4);
        CHECK.dueCells("as they were", x, 1, SHORTS, 5, 6, 7);
        CHECK.dueWithFault("the most that goes", x, x.copy(0, 1, 1, 0, 3), 3);
    }
}
