import java.util.ArrayDeque;
import java.util.ArrayList;
import java.util.Arrays;
import java.util.HashMap;
import java.util.LinkedHashMap;
import java.util.List;
import java.util.Map;
import java.util.regex.Matcher;
import java.util.regex.Pattern;

/**
 * The document told a second time, with the Java library and without care for time and room: nothing is
 * kept that can be found anew. Its calls bear the names of those of LampSwitches.
 */
final class Model {
    private static final int UNKNOWN = -1, OUTSIDE = -2, STATE = -3, FULL = -4, NONE = -9;
    private static final int NULL = 1, CAST = 2, INDEX = 3, SIZE = 4;
    private static final long LOST = Long.MIN_VALUE;

    private static final class Switch {
        char letter;
        int turn;
        int[] wired;
        int pressed;

        int moves() {
            return letter == 'p' ? turn : letter == 'b' ? turn + 1 : turn + turn;
        }

        int kind() {
            return "pbd".indexOf(letter);
        }
    }

    private int[] shades = {};
    private int[] now = {};
    private List<Switch> switches = new ArrayList<>();
    private List<int[]> readings = new ArrayList<>();
    /** Each null, a byte[], a short[] or an int[]. */
    private final Object[] sheets = new Object[4];
    private int trace;
    private int fault;

    // ---- what many calls ask for

    private boolean noSheet(int k) {
        return k < 0 || k > 3;
    }

    private boolean noLamp(int l) {
        return l < 0 || l >= shades.length;
    }

    private boolean noSwitch(int s) {
        return s < 0 || s >= switches.size();
    }

    private boolean noHall() {
        return shades.length == 0;
    }

    private int laneOf(Object row) {
        return row instanceof byte[] ? 0 : row instanceof short[] ? 1 : 2;
    }

    /** The cells of a row, copied. */
    private int[] cellsOf(Object row) {
        if (row instanceof byte[] bytes) {
            int[] cells = new int[bytes.length];
            Arrays.setAll(cells, i -> bytes[i]);
            return cells;
        }
        if (row instanceof short[] shorts) {
            int[] cells = new int[shorts.length];
            Arrays.setAll(cells, i -> shorts[i]);
            return cells;
        }
        return ((int[]) row).clone();
    }

    private void setCell(Object row, int i, int v) {
        if (row instanceof byte[] bytes) {
            bytes[i] = (byte) v;
        } else if (row instanceof short[] shorts) {
            shorts[i] = (short) v;
        } else {
            ((int[]) row)[i] = v;
        }
    }

    /** 0, or the fault that taking a sheet's row as one of a lane comes to. */
    private int taken(int k, int lane) {
        if (sheets[k] != null && laneOf(sheets[k]) != lane) {
            return CAST;
        }
        return sheets[k] == null ? NULL : 0;
    }

    private boolean notThere(int k, long i, long n) {
        long length = cellsOf(sheets[k]).length;
        return i < 0 || n < 0 || i > length || i + n > length;
    }

    private int faulted(int number) {
        fault = number;
        return -10 - number;
    }

    // ---- 1 the hall

    private static Pattern textOf(int lamps) {
        return Pattern.compile("l([2-5]{" + lamps + "})((;[pbd][1-4][01]{" + lamps + "}){1,5})");
    }

    /** Whether a text is one, or could go on to be one. */
    private static boolean goesOn(String text) {
        for (int lamps = 1; lamps <= 5; lamps++) {
            Matcher matcher = textOf(lamps).matcher(text);
            if (matcher.matches() || matcher.hitEnd()) {
                return true;
            }
        }
        return false;
    }

    int hall(int sheet, int lane, int i, int n) {
        fault = 0;
        if (noSheet(sheet)) {
            return UNKNOWN;
        }
        if (lane < 0 || lane > 2) {
            return OUTSIDE;
        }
        if (taken(sheet, lane) != 0) {
            return faulted(taken(sheet, lane));
        }
        if (n < 0) {
            return faulted(SIZE);
        }
        if (notThere(sheet, i, n)) {
            return faulted(INDEX);
        }
        StringBuilder codes = new StringBuilder();
        for (int code : Arrays.copyOfRange(cellsOf(sheets[sheet]), i, i + n)) {
            codes.append(code >= 0 && code < 128 ? (char) code : '?');
        }
        String text = codes.toString();
        for (int lamps = 1; lamps <= 5; lamps++) {
            Matcher matcher = textOf(lamps).matcher(text);
            if (matcher.matches()) {
                layOut(matcher.group(1), matcher.group(2).substring(1).split(";"));
                return switches.size();
            }
        }
        int place = 0;
        while (place < n && goesOn(text.substring(0, place + 1))) {
            place++;
        }
        return -100 - place;
    }

    private void layOut(String digits, String[] parts) {
        shades = digits.chars().map(code -> code - '0').toArray();
        now = new int[shades.length];
        switches = new ArrayList<>();
        readings = new ArrayList<>();
        for (String part : parts) {
            Switch one = new Switch();
            one.letter = part.charAt(0);
            one.turn = part.charAt(1) - '0';
            one.wired = part.substring(2).chars().map(code -> code - '0').toArray();
            switches.add(one);
        }
    }

    int ofLamp(int l, int what) {
        if (noLamp(l)) {
            return UNKNOWN;
        }
        if (what == 2) {
            int set = 0;
            for (int s = 0; s < switches.size(); s++) {
                set += switches.get(s).wired[l] << s;
            }
            return set;
        }
        return what == 0 ? shades[l] : what == 1 ? now[l] : OUTSIDE;
    }

    int ofSwitch(int s, int what) {
        if (noSwitch(s)) {
            return UNKNOWN;
        }
        Switch one = switches.get(s);
        if (what < 0 || what > 4) {
            return OUTSIDE;
        }
        int wires = 0;
        for (int l = 0; l < shades.length; l++) {
            wires += one.wired[l] << l;
        }
        return new int[] {one.kind(), one.turn, one.moves(), wires, one.pressed}[what];
    }

    int shade(int l, int v) {
        if (noLamp(l)) {
            return UNKNOWN;
        }
        if (v < 0 || v >= shades[l]) {
            return OUTSIDE;
        }
        int was = now[l];
        now[l] = v;
        return was;
    }

    int turn(int s, int v) {
        if (noSwitch(s)) {
            return UNKNOWN;
        }
        if (v < 1 || v > 4) {
            return OUTSIDE;
        }
        int was = switches.get(s).turn;
        switches.get(s).turn = v;
        return was;
    }

    int wire(int s, int l) {
        if (noSwitch(s) || noLamp(l)) {
            return UNKNOWN;
        }
        int[] wired = switches.get(s).wired;
        wired[l] = 1 - wired[l];
        return wired[l];
    }

    // ---- 2 presses

    private int[] pressed(int[] hall, Switch one) {
        int[] then = hall.clone();
        for (int l = 0; l < then.length; l++) {
            for (int move = 0; move < one.moves() * one.wired[l]; move++) {
                then[l] = then[l] + 1 == shades[l] ? 0 : then[l] + 1;
            }
        }
        return then;
    }

    private static int dark(int[] hall) {
        return (int) Arrays.stream(hall).filter(shade -> shade == 0).count();
    }

    int press(int s, int n) {
        if (noSwitch(s)) {
            return UNKNOWN;
        }
        if (n < 1 || n > 99) {
            return OUTSIDE;
        }
        for (int time = 0; time < n; time++) {
            now = pressed(now, switches.get(s));
            switches.get(s).pressed++;
        }
        return dark(now);
    }

    int day(int sheet, int lane, int i, int n, int what) {
        fault = 0;
        if (noSheet(sheet)) {
            return UNKNOWN;
        }
        if (lane < 0 || lane > 2 || n < 0 || n > 20 || what < 0 || what > 4 && what < 10 || what > 14) {
            return OUTSIDE;
        }
        if (taken(sheet, lane) != 0) {
            return faulted(taken(sheet, lane));
        }
        if (notThere(sheet, i, 2 * n)) {
            return faulted(INDEX);
        }
        if (noHall()) {
            return STATE;
        }
        int[] pairs = Arrays.copyOfRange(cellsOf(sheets[sheet]), i, i + 2 * n);
        for (int act = 0; act < n; act++) {
            int first = pairs[2 * act];
            int second = pairs[2 * act + 1];
            if (second < 0 || second > 14 || second >= 10 && (first < 0 || first > 4)) {
                return OUTSIDE;
            }
            if (second < 10 && noSwitch(first)) {
                return UNKNOWN;
            }
        }
        return ofDay(pairs, what);
    }

    private int ofDay(int[] pairs, int what) {
        int[] then = now.clone();
        int presses = 0;
        int behind = 0;
        for (int act = 0; act < pairs.length / 2; act++) {
            int first = pairs[2 * act];
            int second = pairs[2 * act + 1];
            if (second >= 10) {
                if (noLamp(second - 10) || first >= shades[second - 10]) {
                    return what == 1 ? act : -100 - act;
                }
                then[second - 10] = first;
            } else {
                for (int time = 0; time < second; time++) {
                    then = pressed(then, switches.get(first));
                    presses++;
                }
            }
            behind += dark(then) == then.length ? 1 : 0;
        }
        if (what >= 10) {
            return noLamp(what - 10) ? NONE : then[what - 10];
        }
        return new int[] {dark(then), NONE, Arrays.stream(then).sum(), presses, behind}[what];
    }

    // ---- 3 what can be come to

    private static List<Integer> listed(int[] hall) {
        List<Integer> list = new ArrayList<>();
        for (int shade : hall) {
            list.add(shade);
        }
        return list;
    }

    /** Each hall that some switches come to, in the order of the rows by which one comes there first. */
    private Map<List<Integer>, List<Integer>> rowsFrom(int[] start, List<Switch> by) {
        Map<List<Integer>, List<Integer>> rows = new LinkedHashMap<>();
        ArrayDeque<int[]> open = new ArrayDeque<>();
        rows.put(listed(start), new ArrayList<>());
        open.add(start);
        while (!open.isEmpty()) {
            int[] here = open.remove();
            for (int s = 0; s < by.size(); s++) {
                int[] then = pressed(here, by.get(s));
                if (!rows.containsKey(listed(then))) {
                    List<Integer> row = new ArrayList<>(rows.get(listed(here)));
                    row.add(s);
                    rows.put(listed(then), row);
                    open.add(then);
                }
            }
        }
        return rows;
    }

    int fewest(int sheet, int lane, int i, int k) {
        fault = 0;
        if (noHall()) {
            return STATE;
        }
        if (noSheet(sheet)) {
            return UNKNOWN;
        }
        if (lane < 0 || lane > 2 || k < -1 || k > 99) {
            return OUTSIDE;
        }
        if (taken(sheet, lane) != 0) {
            return faulted(taken(sheet, lane));
        }
        if (notThere(sheet, i, shades.length)) {
            return faulted(INDEX);
        }
        int[] aim = Arrays.copyOfRange(cellsOf(sheets[sheet]), i, i + shades.length);
        for (int l = 0; l < aim.length; l++) {
            if (aim[l] < 0 || aim[l] >= shades[l]) {
                return OUTSIDE;
            }
        }
        List<Integer> row = rowsFrom(now, switches).get(listed(aim));
        if (row == null || k >= row.size()) {
            return NONE;
        }
        return k == -1 ? row.size() : row.get(k);
    }

    int halls() {
        return noHall() ? STATE : rowsFrom(now, switches).size();
    }

    int alone(int l) {
        if (noLamp(l)) {
            return UNKNOWN;
        }
        int[] aim = now.clone();
        aim[l] = aim[l] + 1 == shades[l] ? 0 : aim[l] + 1;
        List<Integer> row = rowsFrom(now, switches).get(listed(aim));
        return row == null ? NONE : row.size();
    }

    int idle() {
        if (noHall()) {
            return STATE;
        }
        int least = Integer.MAX_VALUE;
        for (Switch one : switches) {
            least = Math.min(least, 1 + rowsFrom(pressed(now, one), switches).get(listed(now)).size());
        }
        return least;
    }

    int spare() {
        if (noHall()) {
            return STATE;
        }
        int set = 0;
        for (int s = 0; s < switches.size(); s++) {
            List<Switch> others = new ArrayList<>(switches);
            others.remove(s);
            set += rowsFrom(now, others).size() == halls() ? 1 << s : 0;
        }
        return set;
    }

    // ---- 4 what turned

    int reading(int s, int l, int v) {
        if (noSwitch(s) || noLamp(l)) {
            return UNKNOWN;
        }
        if (v < 0 || v > 4) {
            return OUTSIDE;
        }
        if (readings.size() == 8) {
            return FULL;
        }
        readings.add(new int[] {s, l, v});
        return readings.size() - 1;
    }

    int back(int n) {
        if (n < 0 || n > readings.size()) {
            return OUTSIDE;
        }
        readings = new ArrayList<>(readings.subList(0, readings.size() - n));
        return readings.size();
    }

    private boolean allReadingsAreSo() {
        return readings.stream().allMatch(r -> pressed(new int[shades.length], switches.get(r[0]))[r[1]] == r[2]);
    }

    int turnings(int s) {
        if (noSwitch(s)) {
            return UNKNOWN;
        }
        int was = switches.get(s).turn;
        int set = 0;
        for (int turn = 1; turn <= 4; turn++) {
            switches.get(s).turn = turn;
            set += allReadingsAreSo() ? 1 << turn : 0;
        }
        switches.get(s).turn = was;
        return set;
    }

    int kinds(int s) {
        if (noSwitch(s)) {
            return UNKNOWN;
        }
        char was = switches.get(s).letter;
        int set = 0;
        for (int kind = 0; kind <= 2; kind++) {
            switches.get(s).letter = "pbd".charAt(kind);
            set += allReadingsAreSo() ? 1 << kind : 0;
        }
        switches.get(s).letter = was;
        return set;
    }

    int shadings(int l) {
        if (noLamp(l)) {
            return UNKNOWN;
        }
        int was = shades[l];
        int set = 0;
        for (int many = 2; many <= 5; many++) {
            shades[l] = many;
            set += allReadingsAreSo() ? 1 << many : 0;
        }
        shades[l] = was;
        return set;
    }

    long odds(int n, int which) {
        if (n < 0 || n > 4 || which < 0 || which > 1 || noHall()) {
            return LOST;
        }
        Map<List<Integer>, Long> ways = new HashMap<>();
        ways.put(listed(now), 1L);
        long all = 1;
        for (int place = 0; place < n; place++) {
            Map<List<Integer>, Long> next = new HashMap<>();
            for (Map.Entry<List<Integer>, Long> way : ways.entrySet()) {
                int[] here = way.getKey().stream().mapToInt(Integer::intValue).toArray();
                for (Switch one : switches) {
                    next.merge(listed(pressed(here, one)), way.getValue(), Long::sum);
                }
            }
            ways = next;
            all *= switches.size();
        }
        long dark = ways.getOrDefault(listed(new int[shades.length]), 0L);
        long common = all;
        while (all % common != 0 || dark % common != 0) {
            common--;
        }
        return which == 0 ? dark / common : all / common;
    }

    // ---- 5 sheets, parts

    int sheet(int k, int lane, int n) {
        fault = 0;
        if (noSheet(k)) {
            return UNKNOWN;
        }
        if (lane < 0 || lane > 2 || n > 60) {
            return OUTSIDE;
        }
        if (n < 0) {
            return faulted(SIZE);
        }
        sheets[k] = lane == 0 ? new byte[n] : lane == 1 ? new short[n] : new int[n];
        return 1;
    }

    int lose(int k) {
        if (noSheet(k)) {
            return UNKNOWN;
        }
        int had = sheets[k] == null ? 0 : 1;
        sheets[k] = null;
        return had;
    }

    int put(int k, int i, int v) {
        fault = 0;
        if (noSheet(k)) {
            return UNKNOWN;
        }
        if (sheets[k] == null) {
            return faulted(NULL);
        }
        if (notThere(k, i, 1)) {
            return faulted(INDEX);
        }
        setCell(sheets[k], i, v);
        return 1;
    }

    long cell(int k, int i, int lane) {
        fault = 0;
        if (noSheet(k) || lane < 0 || lane > 2) {
            return LOST;
        }
        if (taken(k, lane) != 0) {
            fault = taken(k, lane);
            return LOST;
        }
        if (notThere(k, i, 1)) {
            fault = INDEX;
            return LOST;
        }
        return cellsOf(sheets[k])[i];
    }

    int copy(int k, int i, int other, int j, int n) {
        fault = 0;
        if (noSheet(k) || noSheet(other)) {
            return UNKNOWN;
        }
        if (sheets[k] == null || sheets[other] == null) {
            return faulted(NULL);
        }
        if (laneOf(sheets[k]) != laneOf(sheets[other])) {
            return faulted(CAST);
        }
        if (notThere(k, i, n) || notThere(other, j, n)) {
            return faulted(INDEX);
        }
        int[] were = Arrays.copyOfRange(cellsOf(sheets[k]), i, i + n);
        for (int at = 0; at < n; at++) {
            setCell(sheets[other], j + at, were[at]);
        }
        return n;
    }

    private void leave(int... numbers) {
        for (int number : numbers) {
            trace = 31 * trace + number;
        }
    }

    int tell(int s) {
        if (noSwitch(s)) {
            return UNKNOWN;
        }
        Switch one = switches.get(s);
        if (one.letter == 'p') {
            leave(1);
            return one.turn;
        }
        if (one.letter == 'b') {
            leave(2, 1);
            return one.turn + 100;
        }
        leave(3, 2, 1, 1);
        return one.turn + 100 + one.turn;
    }

    int feel(int s) {
        if (noSwitch(s)) {
            return UNKNOWN;
        }
        boolean own = switches.get(s).letter == 'd';
        leave(own ? 5 : 4);
        return own ? 70 : s;
    }

    int as(int s, int kind) {
        fault = 0;
        if (noSwitch(s)) {
            return UNKNOWN;
        }
        if (kind < 0 || kind > 2) {
            return OUTSIDE;
        }
        return switches.get(s).kind() < kind ? faulted(CAST) : 1;
    }

    int trace() {
        return trace;
    }

    int fault() {
        return fault;
    }

    int many(int what) {
        if (what < 0 || what > 4) {
            return OUTSIDE;
        }
        int presses = switches.stream().mapToInt(one -> one.pressed).sum();
        return new int[] {shades.length, switches.size(), dark(now), presses, readings.size()}[what];
    }
}
