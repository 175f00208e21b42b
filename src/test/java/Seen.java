import java.util.LinkedHashMap;
import java.util.Map;

/** All that can be seen of an object but fault(), which looking at sheets changes: alike for objects that are alike. */
final class Seen {
    private final Map<String, Long> told = new LinkedHashMap<>();

    /** All of it, as one text. */
    static String of(LampSwitches x) {
        Seen seen = new Seen();
        seen.state(x);
        seen.whatCanBeComeTo(x);
        return seen.told.toString();
    }

    /** What calls change, by name: lamps, switches, readings by what follows from them, sheets, TRACE. */
    static Map<String, Long> stateOf(LampSwitches x) {
        Seen seen = new Seen();
        seen.state(x);
        return seen.told;
    }

    private void state(LampSwitches x) {
        hall(x);
        whatTurned(x);
        for (int k = 0; k < 4; k++) {
            sheet(x, k);
        }
        add("trace", x.trace());
    }

    private void add(String name, long number) {
        if (told.put(name, number) != null) {
            throw new IllegalStateException("told twice: " + name);
        }
    }

    private void hall(LampSwitches x) {
        String[] counts = {"lamps", "switches", "dark", "pressed", "readings"};
        for (int what = 0; what <= 4; what++) {
            add(counts[what], x.many(what));
        }
        for (int l = 0; l < x.many(0); l++) {
            add("shades " + l, x.ofLamp(l, 0));
            add("shade " + l, x.ofLamp(l, 1));
        }
        String[] parts = {"kind", "turn", "moves", "wires", "pressed"};
        for (int s = 0; s < x.many(1); s++) {
            for (int what = 0; what <= 4; what++) {
                add(parts[what] + " " + s, x.ofSwitch(s, what));
            }
        }
    }

    private void whatCanBeComeTo(LampSwitches x) {
        add("halls", x.halls());
        add("idle", x.idle());
        add("spare", x.spare());
        add("odds", x.odds(2, 0));
        for (int l = 0; l < x.many(0); l++) {
            add("alone " + l, x.alone(l));
        }
    }

    private void whatTurned(LampSwitches x) {
        for (int s = 0; s < x.many(1); s++) {
            add("turnings " + s, x.turnings(s));
            add("kinds " + s, x.kinds(s));
        }
        for (int l = 0; l < x.many(0); l++) {
            add("shadings " + l, x.shadings(l));
        }
    }

    /** The lane of a sheet that has something (-1: it has nothing), and its cells. */
    private void sheet(LampSwitches x, int k) {
        int lane = -1;
        for (int tried = 0; tried <= 2; tried++) {
            x.cell(k, 0, tried);
            // Of its own lane it comes to no fault, or, if it has no cells, to INDEX.
            if (x.fault() == 0 || x.fault() == 3) {
                lane = tried;
            }
        }
        add("lane " + k, lane);
        for (int i = 0; lane >= 0 && i < 61; i++) {
            long cell = x.cell(k, i, lane);
            if (x.fault() != 0) {
                return;
            }
            add("cell " + k + " " + i, cell);
        }
    }
}
