/** Switches that turn more lamps than their own; what it promises is told in DOC.md. */
public final class LampSwitches {
    public static final int UNKNOWN = -1, OUTSIDE = -2, STATE = -3, FULL = -4, NONE = -9;
    public static final long LOST = Long.MIN_VALUE;

    private static final int NO_FAULT = 0, NULL = 1, CAST = 2, INDEX = 3, SIZE = 4;
    private static final int PLAIN = 0, BROAD = 1, DOUBLE = 2;
    private static final int BYTES = 0, SHORTS = 1, INTS = 2;
    private static final int MOST_LAMPS = 5, MOST_SHADES = 5, MOST_SWITCHES = 5, MOST_TURN = 4;
    private static final int MOST_READINGS = 8, MOST_SHEETS = 4, MOST_CELLS = 60;
    private static final int MOST_PRESSES = 99, MOST_ACTS = 20, MOST_ROW = 100, MOST_ODDS = 4;
    /** In a pair of a day, the second number from which on it names a lamp. */
    private static final int LAMP_ACTS = 10;
    private static final int LAST_ACT = LAMP_ACTS + MOST_LAMPS - 1;

    private final Hall hall = new Hall();
    private final TextReader reader = new TextReader();
    private final Reach reach = new Reach();
    private final Readings readings = new Readings();
    private final Day told = new Day();
    private final Sheet[] sheets = new Sheet[MOST_SHEETS];
    /** A shade for each lamp, for what is only tried; used anew by each call. */
    private final int[] tried = new int[MOST_LAMPS];
    private int left;
    private int latestFault;

    public LampSwitches() {
        for (int k = 0; k < MOST_SHEETS; k++) {
            sheets[k] = new Sheet();
        }
    }

    // ---- 1 the hall

    public int hall(int sheet, int lane, int i, int n) {
        latestFault = NO_FAULT;
        Sheet row = sheetAt(sheet);
        if (row == null) {
            return UNKNOWN;
        }
        if (!isLane(lane)) {
            return OUTSIDE;
        }
        int wrong = row.faultAs(lane);
        if (wrong == NO_FAULT && n < 0) {
            wrong = SIZE;
        }
        if (wrong == NO_FAULT && !row.hasCells(i, n)) {
            wrong = INDEX;
        }
        if (wrong != NO_FAULT) {
            return faulted(wrong);
        }
        reader.take(row, i, n);
        int first = reader.firstFault();
        if (first != NONE) {
            return -100 - first;
        }
        reader.layOut(hall);
        readings.many = 0;
        reach.forget();
        return hall.switches;
    }

    public int ofLamp(int l, int what) {
        if (!hall.hasLamp(l)) {
            return UNKNOWN;
        }
        switch (what) {
            case 0:
                return hall.shades[l];
            case 1:
                return hall.now[l];
            case 2:
                return hall.switchesTo(l);
            default:
                return OUTSIDE;
        }
    }

    public int ofSwitch(int s, int what) {
        if (!hall.hasSwitch(s)) {
            return UNKNOWN;
        }
        switch (what) {
            case 0:
                return hall.kind[s];
            case 1:
                return hall.turn[s];
            case 2:
                return hall.moves(s);
            case 3:
                return hall.wires[s];
            case 4:
                return hall.presses[s];
            default:
                return OUTSIDE;
        }
    }

    public int shade(int l, int v) {
        if (!hall.hasLamp(l)) {
            return UNKNOWN;
        }
        if (!hall.hasShade(l, v)) {
            return OUTSIDE;
        }
        int was = hall.now[l];
        hall.now[l] = v;
        return was;
    }

    public int turn(int s, int v) {
        if (!hall.hasSwitch(s)) {
            return UNKNOWN;
        }
        if (!isIn(v, 1, MOST_TURN)) {
            return OUTSIDE;
        }
        int was = hall.turn[s];
        hall.turn[s] = v;
        reach.forget();
        return was;
    }

    public int wire(int s, int l) {
        if (!hall.hasSwitch(s) || !hall.hasLamp(l)) {
            return UNKNOWN;
        }
        hall.wires[s] ^= 1 << l;
        reach.forget();
        return hall.isWired(s, l) ? 1 : 0;
    }

    // ---- 2 presses

    public int press(int s, int n) {
        if (!hall.hasSwitch(s)) {
            return UNKNOWN;
        }
        if (!isIn(n, 1, MOST_PRESSES)) {
            return OUTSIDE;
        }
        hall.turnOn(hall.now, s, n);
        hall.presses[s] += n;
        return hall.darkIn(hall.now);
    }

    public int day(int sheet, int lane, int i, int n, int what) {
        latestFault = NO_FAULT;
        Sheet row = sheetAt(sheet);
        if (row == null) {
            return UNKNOWN;
        }
        if (!isLane(lane) || !isIn(n, 0, MOST_ACTS) || !isAskedOfDay(what)) {
            return OUTSIDE;
        }
        int wrong = row.faultOfCells(lane, i, 2 * n);
        if (wrong != NO_FAULT) {
            return faulted(wrong);
        }
        if (hall.isMissing()) {
            return STATE;
        }
        int refusal = refusalOfPairs(row, i, n);
        if (refusal != 0) {
            return refusal;
        }
        told.goThrough(hall, row, i, n);
        return ofDay(what);
    }

    private static boolean isAskedOfDay(int what) {
        return isIn(what, 0, 4) || isIn(what, LAMP_ACTS, LAST_ACT);
    }

    /** The refusal of the first pair that is refused; 0: of none. */
    private int refusalOfPairs(Sheet row, int i, int n) {
        for (int act = 0; act < n; act++) {
            int refusal = refusalOfPair(row.at(i + 2 * act), row.at(i + 2 * act + 1));
            if (refusal != 0) {
                return refusal;
            }
        }
        return 0;
    }

    private int refusalOfPair(int first, int second) {
        if (!isIn(second, 0, LAST_ACT)) {
            return OUTSIDE;
        }
        if (second >= LAMP_ACTS) {
            return isIn(first, 0, MOST_SHADES - 1) ? 0 : OUTSIDE;
        }
        return hall.hasSwitch(first) ? 0 : UNKNOWN;
    }

    private int ofDay(int what) {
        if (what == 1) {
            return told.firstWrong;
        }
        if (told.firstWrong != NONE) {
            return -100 - told.firstWrong;
        }
        switch (what) {
            case 0:
                return hall.darkIn(told.then);
            case 2:
                return hall.shadesIn(told.then);
            case 3:
                return told.pressed;
            case 4:
                return told.darkBehind;
            default:
                int l = what - LAMP_ACTS;
                return hall.hasLamp(l) ? told.then[l] : NONE;
        }
    }

    // ---- 3 what can be come to

    public int fewest(int sheet, int lane, int i, int k) {
        latestFault = NO_FAULT;
        if (hall.isMissing()) {
            return STATE;
        }
        Sheet row = sheetAt(sheet);
        if (row == null) {
            return UNKNOWN;
        }
        if (!isLane(lane) || !isIn(k, -1, MOST_ROW - 1)) {
            return OUTSIDE;
        }
        int wrong = row.faultOfCells(lane, i, hall.lamps);
        if (wrong != NO_FAULT) {
            return faulted(wrong);
        }
        for (int l = 0; l < hall.lamps; l++) {
            int shade = row.at(i + l);
            if (!hall.hasShade(l, shade)) {
                return OUTSIDE;
            }
            tried[l] = wrapped(shade - hall.now[l], hall.shades[l]);
        }
        return k == -1 ? reach.pressesFor(hall, tried) : reach.placeInRow(hall, tried, k);
    }

    public int halls() {
        return hall.isMissing() ? STATE : reach.manyBy(hall, hall.allSwitches());
    }

    public int alone(int l) {
        if (!hall.hasLamp(l)) {
            return UNKNOWN;
        }
        for (int other = 0; other < hall.lamps; other++) {
            tried[other] = other == l ? 1 : 0;
        }
        return reach.pressesFor(hall, tried);
    }

    public int idle() {
        return hall.isMissing() ? STATE : reach.pressesForNothing(hall);
    }

    public int spare() {
        if (hall.isMissing()) {
            return STATE;
        }
        int all = hall.allSwitches();
        int halls = reach.manyBy(hall, all);
        int set = 0;
        for (int s = 0; s < hall.switches; s++) {
            if (reach.manyBy(hall, all & ~(1 << s)) == halls) {
                set |= 1 << s;
            }
        }
        return set;
    }

    // ---- 4 what turned

    public int reading(int s, int l, int v) {
        if (!hall.hasSwitch(s) || !hall.hasLamp(l)) {
            return UNKNOWN;
        }
        if (!isIn(v, 0, MOST_SHADES - 1)) {
            return OUTSIDE;
        }
        return readings.add(s, l, v);
    }

    public int back(int n) {
        if (!isIn(n, 0, readings.many)) {
            return OUTSIDE;
        }
        readings.many -= n;
        return readings.many;
    }

    public int turnings(int s) {
        return hall.hasSwitch(s) ? fitting(hall.turn, s, 1, MOST_TURN) : UNKNOWN;
    }

    public int kinds(int s) {
        return hall.hasSwitch(s) ? fitting(hall.kind, s, PLAIN, DOUBLE) : UNKNOWN;
    }

    public int shadings(int l) {
        return hall.hasLamp(l) ? fitting(hall.shades, l, 2, MOST_SHADES) : UNKNOWN;
    }

    /** The numbers that can stand in a place of a row of the hall's, by which all readings are so. */
    private int fitting(int[] row, int place, int least, int most) {
        int was = row[place];
        int set = 0;
        for (int v = least; v <= most; v++) {
            row[place] = v;
            if (readings.areSo(hall)) {
                set |= 1 << v;
            }
        }
        row[place] = was;
        return set;
    }

    public long odds(int n, int which) {
        if (!isIn(n, 0, MOST_ODDS) || !isIn(which, 0, 1) || hall.isMissing()) {
            return LOST;
        }
        int rows = 1;
        for (int place = 0; place < n; place++) {
            rows *= hall.switches;
        }
        System.arraycopy(hall.now, 0, tried, 0, MOST_LAMPS);
        int dark = darkRows(hall, tried, n);
        int common = commonDivisor(rows, dark);
        if (common == 0) {
            return LOST;
        }
        return (which == 0 ? dark : rows) / common;
    }

    /** How many rows of so many presses make a row of shades dark; it is as before then. */
    private static int darkRows(Hall hall, int[] row, int length) {
        if (length <= 0 || length > MOST_ODDS) {
            return hall.darkIn(row) == hall.lamps ? 1 : 0;
        }
        int dark = 0;
        for (int s = 0; s < hall.switches; s++) {
            hall.turnOn(row, s, 1);
            dark += darkRows(hall, row, length - 1);
            hall.turnOn(row, s, -1);
        }
        return dark;
    }

    private static int commonDivisor(int a, int b) {
        int larger = a;
        int smaller = b;
        // Each two steps at least halve the smaller one, so that no int needs as many as this.
        for (int step = 0; step < 64 && smaller > 0; step++) {
            int rest = larger % smaller;
            larger = smaller;
            smaller = rest;
        }
        return larger;
    }

    // ---- 5 sheets, parts

    public int sheet(int k, int lane, int n) {
        latestFault = NO_FAULT;
        Sheet row = sheetAt(k);
        if (row == null) {
            return UNKNOWN;
        }
        if (!isLane(lane) || n > MOST_CELLS) {
            return OUTSIDE;
        }
        if (n < 0) {
            return faulted(SIZE);
        }
        row.begin(lane, n);
        return 1;
    }

    public int lose(int k) {
        Sheet row = sheetAt(k);
        if (row == null) {
            return UNKNOWN;
        }
        if (row.isNothing()) {
            return 0;
        }
        row.end();
        return 1;
    }

    public int put(int k, int i, int v) {
        latestFault = NO_FAULT;
        Sheet row = sheetAt(k);
        if (row == null) {
            return UNKNOWN;
        }
        if (row.isNothing()) {
            return faulted(NULL);
        }
        if (!row.hasCells(i, 1)) {
            return faulted(INDEX);
        }
        row.set(i, v);
        return 1;
    }

    public long cell(int k, int i, int lane) {
        latestFault = NO_FAULT;
        Sheet row = sheetAt(k);
        if (row == null || !isLane(lane)) {
            return LOST;
        }
        int wrong = row.faultOfCells(lane, i, 1);
        if (wrong != NO_FAULT) {
            latestFault = wrong;
            return LOST;
        }
        return row.at(i);
    }

    public int copy(int k, int i, int other, int j, int n) {
        latestFault = NO_FAULT;
        Sheet from = sheetAt(k);
        Sheet to = sheetAt(other);
        if (from == null || to == null) {
            return UNKNOWN;
        }
        if (from.isNothing() || to.isNothing()) {
            return faulted(NULL);
        }
        if (from.lane != to.lane) {
            return faulted(CAST);
        }
        if (!from.hasCells(i, n) || !to.hasCells(j, n)) {
            return faulted(INDEX);
        }
        System.arraycopy(from.cells, i, to.cells, j, n);
        return n;
    }

    public int tell(int s) {
        if (!hall.hasSwitch(s)) {
            return UNKNOWN;
        }
        switch (hall.kind[s]) {
            case DOUBLE:
                return doubleBody(hall.turn[s]);
            case BROAD:
                return broadBody(hall.turn[s]);
            default:
                return plainBody(hall.turn[s]);
        }
    }

    private int plainBody(int turn) {
        leave(1);
        return turn;
    }

    private int broadBody(int turn) {
        leave(2);
        return plainBody(turn) + 100;
    }

    private int doubleBody(int turn) {
        leave(3);
        int asBroad = broadBody(turn);
        return asBroad + plainBody(turn);
    }

    public int feel(int s) {
        if (!hall.hasSwitch(s)) {
            return UNKNOWN;
        }
        return hall.kind[s] == DOUBLE ? ownBody() : lentBody(s);
    }

    private int lentBody(int s) {
        leave(4);
        return s;
    }

    private int ownBody() {
        leave(5);
        return 70;
    }

    private void leave(int number) {
        left = 31 * left + number;
    }

    public int as(int s, int kind) {
        latestFault = NO_FAULT;
        if (!hall.hasSwitch(s)) {
            return UNKNOWN;
        }
        if (!isIn(kind, PLAIN, DOUBLE)) {
            return OUTSIDE;
        }
        // Each kind is also one of all kinds ahead of it.
        return hall.kind[s] >= kind ? 1 : faulted(CAST);
    }

    public int trace() {
        return left;
    }

    public int fault() {
        return latestFault;
    }

    public int many(int what) {
        switch (what) {
            case 0:
                return hall.lamps;
            case 1:
                return hall.switches;
            case 2:
                return hall.darkIn(hall.now);
            case 3:
                return hall.pressesInAll();
            case 4:
                return readings.many;
            default:
                return OUTSIDE;
        }
    }

    private Sheet sheetAt(int k) {
        return k >= 0 && k < MOST_SHEETS ? sheets[k] : null;
    }

    private int faulted(int number) {
        latestFault = number;
        return -10 - number;
    }

    private static boolean isLane(int lane) {
        return isIn(lane, BYTES, INTS);
    }

    private static boolean isIn(int v, int least, int most) {
        return v >= least && v <= most;
    }

    /** A shade that is so many on from the first, behind the last of them the first again. */
    private static int wrapped(int on, int shades) {
        return shades < 1 ? 0 : Math.floorMod(on, shades);
    }

    /** The lamps and the switches, and how all is now; no lamps: there is no hall. */
    private static final class Hall {
        int lamps;
        final int[] shades = new int[MOST_LAMPS];
        final int[] now = new int[MOST_LAMPS];
        int switches;
        final int[] kind = new int[MOST_SWITCHES];
        final int[] turn = new int[MOST_SWITCHES];
        final int[] wires = new int[MOST_SWITCHES];
        final int[] presses = new int[MOST_SWITCHES];

        boolean isMissing() {
            return lamps == 0;
        }

        boolean hasLamp(int l) {
            return l >= 0 && l < lamps;
        }

        boolean hasSwitch(int s) {
            return s >= 0 && s < switches;
        }

        boolean hasShade(int l, int v) {
            return hasLamp(l) && v >= 0 && v < shades[l];
        }

        int allSwitches() {
            return (1 << switches) - 1;
        }

        boolean isWired(int s, int l) {
            return (wires[s] >> l & 1) == 1;
        }

        int switchesTo(int l) {
            int set = 0;
            for (int s = 0; s < switches; s++) {
                if (isWired(s, l)) {
                    set |= 1 << s;
                }
            }
            return set;
        }

        int moves(int s) {
            switch (kind[s]) {
                case DOUBLE:
                    return 2 * turn[s];
                case BROAD:
                    return turn[s] + 1;
                default:
                    return turn[s];
            }
        }

        /** The shade of a dark lamp behind one press. */
        int stepOf(int s, int l) {
            return isWired(s, l) ? wrapped(moves(s), shades[l]) : 0;
        }

        /** Turns a row of shades on as so many presses do; below 0: back. */
        void turnOn(int[] row, int s, int times) {
            for (int l = 0; l < lamps; l++) {
                row[l] = wrapped(row[l] + times * stepOf(s, l), shades[l]);
            }
        }

        int darkIn(int[] row) {
            int dark = 0;
            for (int l = 0; l < lamps; l++) {
                if (row[l] == 0) {
                    dark++;
                }
            }
            return dark;
        }

        int shadesIn(int[] row) {
            int sum = 0;
            for (int l = 0; l < lamps; l++) {
                sum += row[l];
            }
            return sum;
        }

        int pressesInAll() {
            int sum = 0;
            for (int s = 0; s < switches; s++) {
                sum += presses[s];
            }
            return sum;
        }
    }

    /** Reads the text of a hall. */
    private static final class TextReader {
        private static final int END = -1;

        private final int[] codes = new int[MOST_CELLS];
        private int many;
        private int lamps;
        private int switches;

        void take(Sheet row, int i, int n) {
            many = Math.min(n, MOST_CELLS);
            for (int place = 0; place < many; place++) {
                codes[place] = row.at(i + place);
            }
        }

        private int codeAt(int place) {
            return place >= 0 && place < many ? codes[place] : END;
        }

        private boolean isDigit(int place, char least, char most) {
            return isIn(codeAt(place), least, most);
        }

        /** The place of the first fault; NONE: it is a text. */
        int firstFault() {
            if (codeAt(0) != 'l') {
                return 0;
            }
            lamps = 0;
            while (lamps < MOST_LAMPS && isDigit(1 + lamps, '2', '5')) {
                lamps++;
            }
            if (lamps == 0) {
                return 1;
            }
            switches = 0;
            while (switches < MOST_SWITCHES && (switches == 0 || placeOf(switches) < many)) {
                int wrong = faultInSwitch(placeOf(switches));
                if (wrong != NONE) {
                    return wrong;
                }
                switches++;
            }
            return placeOf(switches) == many ? NONE : placeOf(switches);
        }

        private int placeOf(int s) {
            return 1 + lamps + s * (3 + lamps);
        }

        private int faultInSwitch(int place) {
            if (codeAt(place) != ';') {
                return place;
            }
            if (kindOf(codeAt(place + 1)) == NONE) {
                return place + 1;
            }
            if (!isDigit(place + 2, '1', '4')) {
                return place + 2;
            }
            for (int l = 0; l < lamps; l++) {
                if (!isDigit(place + 3 + l, '0', '1')) {
                    return place + 3 + l;
                }
            }
            return NONE;
        }

        private static int kindOf(int letter) {
            switch (letter) {
                case 'p':
                    return PLAIN;
                case 'b':
                    return BROAD;
                case 'd':
                    return DOUBLE;
                default:
                    return NONE;
            }
        }

        /** Makes a hall anew by the text; only behind a look for its first fault that found none. */
        void layOut(Hall hall) {
            hall.lamps = lamps;
            for (int l = 0; l < lamps; l++) {
                hall.shades[l] = codeAt(1 + l) - '0';
                hall.now[l] = 0;
            }
            hall.switches = switches;
            for (int s = 0; s < switches; s++) {
                int place = placeOf(s);
                hall.kind[s] = kindOf(codeAt(place + 1));
                hall.turn[s] = codeAt(place + 2) - '0';
                hall.wires[s] = wiresFrom(place + 3);
                hall.presses[s] = 0;
            }
        }

        private int wiresFrom(int place) {
            int set = 0;
            for (int l = 0; l < lamps; l++) {
                if (codeAt(place + l) == '1') {
                    set |= 1 << l;
                }
            }
            return set;
        }
    }

    /**
     * By how few presses all can be turned on by so much. How all is now does not matter for that,
     * only how far each lamp is turned: a row of shades, told as one number of mixed digits.
     */
    private static final class Reach {
        private static final int MOST_HALLS = 3125;
        private static final int NO_SET = -1;

        private final int[] weight = new int[MOST_LAMPS];
        private final int[][] steps = new int[MOST_SWITCHES][MOST_LAMPS];
        private final int[] digits = new int[MOST_LAMPS];
        private final int[] fewest = new int[MOST_HALLS];
        private final int[] queue = new int[MOST_HALLS];
        private int found;
        /** The switches for which the rows above stand, so that they are not made again for each call. */
        private int setOfRows = NO_SET;

        void forget() {
            setOfRows = NO_SET;
        }

        int manyBy(Hall hall, int set) {
            spread(hall, set);
            return found;
        }

        int pressesFor(Hall hall, int[] gap) {
            spread(hall, hall.allSwitches());
            return fewestTo(numberOf(hall, gap));
        }

        int pressesForNothing(Hall hall) {
            spread(hall, hall.allSwitches());
            splitUp(hall, 0);
            int least = NONE;
            for (int s = 0; s < hall.switches; s++) {
                int rest = fewestTo(numberBy(hall, s, -1));
                if (rest != NONE && (least == NONE || rest + 1 < least)) {
                    least = rest + 1;
                }
            }
            return least;
        }

        int placeInRow(Hall hall, int[] gap, int k) {
            spread(hall, hall.allSwitches());
            int here = numberOf(hall, gap);
            int length = fewestTo(here);
            int s = NONE;
            for (int place = 0; place <= k; place++) {
                if (place >= length) {
                    return NONE;
                }
                splitUp(hall, here);
                s = firstThatLeaves(hall, length - place - 1);
                if (s == NONE) {
                    return NONE;
                }
                here = numberBy(hall, s, -1);
            }
            return s;
        }

        private int firstThatLeaves(Hall hall, int presses) {
            for (int s = 0; s < hall.switches; s++) {
                if (fewestTo(numberBy(hall, s, -1)) == presses) {
                    return s;
                }
            }
            return NONE;
        }

        private int fewestTo(int number) {
            return number >= 0 && number < MOST_HALLS ? fewest[number] : NONE;
        }

        private void spread(Hall hall, int set) {
            if (set == setOfRows) {
                return;
            }
            int halls = measure(hall);
            for (int number = 0; number < halls && number < MOST_HALLS; number++) {
                fewest[number] = NONE;
            }
            found = 0;
            meet(0, 0);
            for (int done = 0; done < found && done < MOST_HALLS; done++) {
                int here = queue[done];
                splitUp(hall, here);
                for (int s = 0; s < hall.switches; s++) {
                    if ((set >> s & 1) == 1) {
                        meet(numberBy(hall, s, 1), fewestTo(here) + 1);
                    }
                }
            }
            setOfRows = set;
        }

        private void meet(int number, int presses) {
            if (number >= 0 && number < MOST_HALLS && found < MOST_HALLS && fewest[number] == NONE) {
                fewest[number] = presses;
                queue[found] = number;
                found++;
            }
        }

        /** How many rows of shades there are at all. */
        private int measure(Hall hall) {
            int halls = 1;
            for (int l = 0; l < hall.lamps; l++) {
                weight[l] = halls;
                halls *= hall.shades[l];
                for (int s = 0; s < hall.switches; s++) {
                    steps[s][l] = hall.stepOf(s, l);
                }
            }
            return halls;
        }

        private void splitUp(Hall hall, int number) {
            int rest = number;
            for (int l = 0; l < hall.lamps; l++) {
                int shades = Math.max(1, hall.shades[l]);
                digits[l] = rest % shades;
                rest /= shades;
            }
        }

        private int numberOf(Hall hall, int[] row) {
            int number = 0;
            int worth = 1;
            for (int l = 0; l < hall.lamps; l++) {
                number += row[l] * worth;
                worth *= hall.shades[l];
            }
            return number;
        }

        /** The number of what was split up, a switch's press further on (1) or back (-1). */
        private int numberBy(Hall hall, int s, int way) {
            int number = 0;
            for (int l = 0; l < hall.lamps; l++) {
                int digit = digits[l] + way * steps[s][l];
                if (digit < 0) {
                    digit += hall.shades[l];
                } else if (digit >= hall.shades[l]) {
                    digit -= hall.shades[l];
                }
                number += digit * weight[l];
            }
            return number;
        }
    }

    /** What was read: the shades of lamps that were dark, behind one press. */
    private static final class Readings {
        int many;
        private final int[] pressed = new int[MOST_READINGS];
        private final int[] lamp = new int[MOST_READINGS];
        private final int[] seen = new int[MOST_READINGS];

        /** The number of the new reading; FULL: there is no place for it. */
        int add(int s, int l, int v) {
            if (many < 0 || many >= MOST_READINGS) {
                return FULL;
            }
            pressed[many] = s;
            lamp[many] = l;
            seen[many] = v;
            many++;
            return many - 1;
        }

        boolean areSo(Hall hall) {
            for (int number = 0; number < many; number++) {
                if (hall.stepOf(pressed[number], lamp[number]) != seen[number]) {
                    return false;
                }
            }
            return true;
        }
    }

    /** A day that is told, gone through on a row of shades of its own. */
    private static final class Day {
        final int[] then = new int[MOST_LAMPS];
        int firstWrong;
        int pressed;
        int darkBehind;

        void goThrough(Hall hall, Sheet row, int i, int n) {
            System.arraycopy(hall.now, 0, then, 0, MOST_LAMPS);
            firstWrong = NONE;
            pressed = 0;
            darkBehind = 0;
            for (int act = 0; act < n; act++) {
                if (!happens(hall, row.at(i + 2 * act), row.at(i + 2 * act + 1))) {
                    firstWrong = act;
                    return;
                }
                if (hall.darkIn(then) == hall.lamps) {
                    darkBehind++;
                }
            }
        }

        private boolean happens(Hall hall, int first, int second) {
            if (second >= LAMP_ACTS) {
                int l = second - LAMP_ACTS;
                if (!hall.hasShade(l, first)) {
                    return false;
                }
                then[l] = first;
                return true;
            }
            if (!hall.hasSwitch(first)) {
                return false;
            }
            hall.turnOn(then, first, second);
            pressed += second;
            return true;
        }
    }

    /** A row of numbers of a lane, or nothing; its cells are made once and used again. */
    private static final class Sheet {
        private static final int NOTHING = -1;

        int lane;
        final int[] cells = new int[MOST_CELLS];
        private int size = NOTHING;

        void begin(int newLane, int n) {
            lane = newLane;
            size = Math.max(0, Math.min(n, MOST_CELLS));
            for (int i = 0; i < size; i++) {
                cells[i] = 0;
            }
        }

        void end() {
            size = NOTHING;
        }

        boolean isNothing() {
            return size == NOTHING;
        }

        /** Whether n cells from i on are there; for none of them, too, i has to be in or just behind the row. */
        boolean hasCells(int i, int n) {
            return i >= 0 && i <= size && n >= 0 && n <= size - i;
        }

        int faultAs(int wanted) {
            if (isNothing()) {
                return NULL;
            }
            return lane == wanted ? NO_FAULT : CAST;
        }

        int faultOfCells(int wanted, int i, int n) {
            int wrong = faultAs(wanted);
            return wrong == NO_FAULT && !hasCells(i, n) ? INDEX : wrong;
        }

        int at(int i) {
            return hasCells(i, 1) ? cells[i] : 0;
        }

        void set(int i, int v) {
            if (hasCells(i, 1)) {
                cells[i] = cut(v);
            }
        }

        private int cut(int v) {
            switch (lane) {
                case BYTES:
                    return (byte) v;
                case SHORTS:
                    return (short) v;
                default:
                    return v;
            }
        }
    }
}
