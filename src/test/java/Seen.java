/** All that can be seen of an object but fault(), which looking at sheets changes: alike for objects that are alike. */
final class Seen {
    private final StringBuilder told = new StringBuilder();

    static String of(LampSwitches x) {
        Seen seen = new Seen();
        seen.hall(x);
        seen.whatCanBeComeTo(x);
        seen.whatTurned(x);
        for (int k = 0; k < 4; k++) {
            seen.sheet(x, k);
        }
        seen.add("trace", x.trace());
        return seen.told.toString();
    }

    private void add(String name, long number) {
        told.append(name).append(' ').append(number).append(' ');
    }

    private void hall(LampSwitches x) {
        for (int what = 0; what <= 4; what++) {
            add("many", x.many(what));
        }
        for (int l = 0; l < x.many(0); l++) {
            add("lamp", x.ofLamp(l, 0));
            add("of", x.ofLamp(l, 1));
        }
        for (int s = 0; s < x.many(1); s++) {
            for (int what = 0; what <= 4; what++) {
                add("switch", x.ofSwitch(s, what));
            }
        }
    }

    private void whatCanBeComeTo(LampSwitches x) {
        add("halls", x.halls());
        add("idle", x.idle());
        add("spare", x.spare());
        add("odds", x.odds(2, 0));
        for (int l = 0; l < x.many(0); l++) {
            add("alone", x.alone(l));
        }
    }

    private void whatTurned(LampSwitches x) {
        for (int s = 0; s < x.many(1); s++) {
            add("turnings", x.turnings(s));
            add("kinds", x.kinds(s));
        }
        for (int l = 0; l < x.many(0); l++) {
            add("shadings", x.shadings(l));
        }
    }

    private void sheet(LampSwitches x, int k) {
        for (int lane = 0; lane <= 2; lane++) {
            long cell = x.cell(k, 0, lane);
            int fault = x.fault();
            add("sheet", fault);
            for (int i = 0; fault == 0 && i < 61; i++) {
                add("", cell);
                cell = x.cell(k, i + 1, lane);
                fault = x.fault();
            }
        }
    }
}
