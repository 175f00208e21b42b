import java.math.BigInteger;
import java.util.ArrayDeque;
import java.util.ArrayList;
import java.util.Arrays;
import java.util.HashMap;
import java.util.List;
import java.util.Map;
import java.util.Random;

/** Halls by chance, each answer found a second time in another, simpler way. */
final class OracleTest {
    private static final Check CHECK = new Check("OracleTest");
    private final Random chance;
    private String text;
    private LampSwitches x;
    private int[] shades;
    private int[] now;
    private int[] kind;
    private int[] turn;
    private boolean[][] wired;

    private OracleTest(long seed) {
        chance = new Random(seed);
    }

    public static void main(String[] args) {
        for (int seed = 0; seed < 400; seed++) {
            OracleTest one = new OracleTest(seed);
            one.make(1 + seed % 5, 1 + seed / 5 % 5);
            one.change();
            one.compareReach();
            one.compareFewest();
            one.compareOdds();
            one.compareReadings();
        }
        CHECK.end();
    }

    private void make(int lamps, int switches) {
        shades = new int[lamps];
        now = new int[lamps];
        kind = new int[switches];
        turn = new int[switches];
        wired = new boolean[switches][lamps];
        StringBuilder codes = new StringBuilder("l");
        for (int l = 0; l < lamps; l++) {
            shades[l] = 2 + chance.nextInt(4);
            codes.append(shades[l]);
        }
        for (int s = 0; s < switches; s++) {
            kind[s] = chance.nextInt(3);
            turn[s] = 1 + chance.nextInt(4);
            codes.append(';').append("pbd".charAt(kind[s])).append(turn[s]);
            for (int l = 0; l < lamps; l++) {
                wired[s][l] = chance.nextInt(3) > 0;
                codes.append(wired[s][l] ? 1 : 0);
            }
        }
        text = codes.toString();
        x = usedHall();
        CHECK.due(text, Check.take(x, text), switches);
    }

    /** A hall of which nothing may be left when another text is taken. */
    private static LampSwitches usedHall() {
        LampSwitches used = Check.withHall("l55555;p111111;b211111;d311111;p411111;b111111");
        for (int at = 0; at < 5; at++) {
            used.press(at, 1 + at);
            used.shade(at, 4);
            used.reading(at, at, 4);
        }
        used.spare();
        used.halls();
        return used;
    }

    /** Other wires, turns and shades than told in the text. */
    private void change() {
        x.halls();
        int presses = 0;
        for (int n = 0; n < 3; n++) {
            int s = chance.nextInt(kind.length);
            int l = chance.nextInt(shades.length);
            wired[s][l] = !wired[s][l];
            CHECK.due(text + " wire", x.wire(s, l), wired[s][l] ? 1 : 0);
            int v = 1 + chance.nextInt(4);
            CHECK.due(text + " turn", x.turn(s, v), turn[s]);
            turn[s] = v;
            int shade = chance.nextInt(shades[l]);
            CHECK.due(text + " shade", x.shade(l, shade), now[l]);
            now[l] = shade;
            int often = 1 + chance.nextInt(99);
            int pressed = chance.nextInt(kind.length);
            for (int time = 0; time < often; time++) {
                now = pressed(now, pressed);
            }
            CHECK.due(text + " press", x.press(pressed, often), dark(now));
            presses += often;
        }
        CHECK.due(text + " presses", x.many(3), presses);
        CHECK.dueShades(text, x, now);
        for (int l = 0; l < shades.length; l++) {
            int set = 0;
            for (int s = 0; s < kind.length; s++) {
                set |= wired[s][l] ? 1 << s : 0;
            }
            CHECK.due(text + " switches to " + l, x.ofLamp(l, 2), set);
        }
        compareDay();
    }

    /** A day of no act: how all is now. */
    private void compareDay() {
        x.sheet(1, Check.BYTES, 0);
        CHECK.due(text + " dark", x.day(1, Check.BYTES, 0, 0, 0), dark(now));
        CHECK.due(text + " shades", x.day(1, Check.BYTES, 0, 0, 2), Arrays.stream(now).sum());
    }

    private int moves(int s) {
        return new int[] {turn[s], turn[s] + 1, turn[s] + turn[s]}[kind[s]];
    }

    private int[] pressed(int[] hall, int s) {
        int[] then = hall.clone();
        for (int l = 0; l < then.length; l++) {
            for (int n = 0; wired[s][l] && n < moves(s); n++) {
                then[l] = then[l] == shades[l] - 1 ? 0 : then[l] + 1;
            }
        }
        return then;
    }

    private static int dark(int[] hall) {
        return (int) Arrays.stream(hall).filter(shade -> shade == 0).count();
    }

    /** All halls that can be come to from one, each with its first shortest row of switches. */
    private Map<List<Integer>, List<Integer>> rowsFrom(int[] hall, int without) {
        Map<List<Integer>, List<Integer>> rows = new HashMap<>();
        ArrayDeque<int[]> open = new ArrayDeque<>();
        rows.put(listed(hall), new ArrayList<>());
        open.add(hall);
        while (!open.isEmpty()) {
            int[] here = open.remove();
            for (int s = 0; s < kind.length; s++) {
                int[] then = pressed(here, s);
                if (s != without && !rows.containsKey(listed(then))) {
                    List<Integer> row = new ArrayList<>(rows.get(listed(here)));
                    row.add(s);
                    rows.put(listed(then), row);
                    open.add(then);
                }
            }
        }
        return rows;
    }

    private static List<Integer> listed(int[] hall) {
        List<Integer> list = new ArrayList<>();
        for (int shade : hall) {
            list.add(shade);
        }
        return list;
    }

    private static int length(List<Integer> row) {
        return row == null ? Check.NONE : row.size();
    }

    private void compareReach() {
        Map<List<Integer>, List<Integer>> rows = rowsFrom(now, -1);
        CHECK.due(text + " halls", x.halls(), rows.size());
        for (int l = 0; l < shades.length; l++) {
            int[] aim = now.clone();
            aim[l] = (aim[l] + 1) % shades[l];
            CHECK.due(text + " alone " + l, x.alone(l), length(rows.get(listed(aim))));
        }
        int idle = Integer.MAX_VALUE;
        int spare = 0;
        for (int s = 0; s < kind.length; s++) {
            idle = Math.min(idle, 1 + rowsFrom(pressed(now, s), -1).get(listed(now)).size());
            if (rowsFrom(now, s).size() == rows.size()) {
                spare |= 1 << s;
            }
        }
        CHECK.due(text + " idle", x.idle(), idle);
        CHECK.due(text + " spare", x.spare(), spare);
    }

    private void compareFewest() {
        Map<List<Integer>, List<Integer>> rows = rowsFrom(now, -1);
        List<List<Integer>> ends = new ArrayList<>(rows.keySet());
        for (int n = 0; n < 5; n++) {
            int[] aim = new int[shades.length];
            List<Integer> end = ends.get(chance.nextInt(ends.size()));
            for (int l = 0; l < aim.length; l++) {
                aim[l] = n < 4 ? end.get(l) : chance.nextInt(shades[l]);
            }
            List<Integer> row = rows.get(listed(aim));
            Check.write(x, 1, Check.SHORTS, aim);
            CHECK.due(text + " fewest", x.fewest(1, Check.SHORTS, 0, -1), length(row));
            for (int k = 0; k < length(row) + 2; k++) {
                int want = k < length(row) ? row.get(k) : Check.NONE;
                CHECK.due(text + " place " + k, x.fewest(1, Check.SHORTS, 0, k), want);
            }
        }
    }

    private void compareOdds() {
        int rows = 1;
        for (int n = 0; n <= 4; n++) {
            int allDark = 0;
            for (int row = 0; row < rows; row++) {
                int[] then = now;
                for (int n2 = 0, rest = row; n2 < n; n2++, rest /= kind.length) {
                    then = pressed(then, rest % kind.length);
                }
                allDark += dark(then) == then.length ? 1 : 0;
            }
            int common = BigInteger.valueOf(allDark).gcd(BigInteger.valueOf(rows)).intValue();
            CHECK.due(text + " upper of " + n, x.odds(n, 0), allDark / common);
            CHECK.due(text + " lower of " + n, x.odds(n, 1), rows / common);
            rows *= kind.length;
        }
    }

    private void compareReadings() {
        List<int[]> readings = new ArrayList<>();
        for (int number = 0; number < 8; number++) {
            int s = chance.nextInt(kind.length);
            int l = chance.nextInt(shades.length);
            int v = chance.nextInt(8) == 0 ? chance.nextInt(5) : pressed(new int[shades.length], s)[l];
            readings.add(new int[] {s, l, v});
            CHECK.due(text + " reading", x.reading(s, l, v), number);
            for (int at = 0; at < kind.length; at++) {
                CHECK.due(text + " turnings", x.turnings(at), fitting(turn, at, 1, 4, readings));
                CHECK.due(text + " kinds", x.kinds(at), fitting(kind, at, 0, 2, readings));
            }
            for (int at = 0; at < shades.length; at++) {
                CHECK.due(text + " shadings", x.shadings(at), fitting(shades, at, 2, 5, readings));
            }
        }
    }

    private int fitting(int[] row, int at, int least, int most, List<int[]> readings) {
        int was = row[at];
        int set = 0;
        for (int v = least; v <= most; v++) {
            row[at] = v;
            if (readings.stream().allMatch(r -> pressed(new int[shades.length], r[0])[r[1]] == r[2])) {
                set |= 1 << v;
            }
        }
        row[at] = was;
        return set;
    }
}
