import java.util.Random;

/** Halls by chance (fixed seeds), in which all that can be asked is asked of the class and of the model. */
final class OracleTest {
    private static final Check CHECK = new Check("OracleTest");
    private final Random chance;
    private final int lamps;
    private final int switches;
    private final String text;
    private final Model model = new Model();
    private final LampSwitches x = usedHall();

    private OracleTest(int seed) {
        chance = new Random(seed);
        lamps = 1 + seed % 5;
        switches = 1 + seed / 5 % 5;
        text = textByChance();
    }

    public static void main(String[] args) {
        for (int seed = 0; seed < 400; seed++) {
            OracleTest one = new OracleTest(seed);
            one.takeText();
            one.change();
            one.compareHall();
            one.compareReach();
            one.compareFewest();
            one.compareOdds();
            one.compareReadings();
        }
        CHECK.end();
    }

    private void due(String call, long got, long want) {
        CHECK.due(text + " " + call, got, want);
    }

    private String textByChance() {
        StringBuilder codes = new StringBuilder("l");
        for (int l = 0; l < lamps; l++) {
            codes.append(2 + chance.nextInt(4));
        }
        for (int s = 0; s < switches; s++) {
            codes.append(';').append("pbd".charAt(chance.nextInt(3))).append(1 + chance.nextInt(4));
            for (int l = 0; l < lamps; l++) {
                codes.append(chance.nextInt(3) > 0 ? 1 : 0);
            }
        }
        return codes.toString();
    }

    /** A hall of which nothing may be left when another text is taken. */
    private static LampSwitches usedHall() {
        LampSwitches used = Check.withHall("l55555;p111111;b211111;d311111;p411111;b111111");
        for (int at = 0; at < 5; at++) {
            used.press(at, 1 + at);
            used.shade(at, 4);
            used.reading(at, at, 4);
        }
        used.spare();
        used.halls();
        return used;
    }

    private void takeText() {
        model.sheet(0, Check.BYTES, text.length());
        for (int i = 0; i < text.length(); i++) {
            model.put(0, i, text.charAt(i));
        }
        due("hall", Check.take(x, text), model.hall(0, Check.BYTES, 0, text.length()));
    }

    /** Other wires, turns and shades than told in the text, behind a look at what can be come to. */
    private void change() {
        x.halls();
        for (int n = 0; n < 3; n++) {
            int s = chance.nextInt(switches);
            int l = chance.nextInt(lamps);
            due("wire", x.wire(s, l), model.wire(s, l));
            int v = 1 + chance.nextInt(4);
            due("turn", x.turn(s, v), model.turn(s, v));
            int shade = chance.nextInt(model.ofLamp(l, 0));
            due("shade", x.shade(l, shade), model.shade(l, shade));
            int often = 1 + chance.nextInt(99);
            int pressed = chance.nextInt(switches);
            due("press", x.press(pressed, often), model.press(pressed, often));
        }
    }

    private void compareHall() {
        for (int what = 0; what < 5; what++) {
            due("many", x.many(what), model.many(what));
            for (int l = 0; l < lamps; l++) {
                due("ofLamp", x.ofLamp(l, what), model.ofLamp(l, what));
            }
            for (int s = 0; s < switches; s++) {
                due("ofSwitch", x.ofSwitch(s, what), model.ofSwitch(s, what));
            }
        }
    }

    private void compareReach() {
        due("halls", x.halls(), model.halls());
        for (int l = 0; l < lamps; l++) {
            due("alone", x.alone(l), model.alone(l));
        }
        due("idle", x.idle(), model.idle());
        due("spare", x.spare(), model.spare());
    }

    private void compareFewest() {
        for (int n = 0; n < 3; n++) {
            x.sheet(1, Check.SHORTS, lamps);
            model.sheet(1, Check.SHORTS, lamps);
            for (int l = 0; l < lamps; l++) {
                int shade = chance.nextInt(model.ofLamp(l, 0));
                x.put(1, l, shade);
                model.put(1, l, shade);
            }
            int length = model.fewest(1, Check.SHORTS, 0, -1);
            for (int k = -1; k <= length; k++) {
                due("fewest " + k, x.fewest(1, Check.SHORTS, 0, k), model.fewest(1, Check.SHORTS, 0, k));
            }
        }
    }

    private void compareOdds() {
        for (int n = 0; n <= 4; n++) {
            due("upper of " + n, x.odds(n, 0), model.odds(n, 0));
            due("lower of " + n, x.odds(n, 1), model.odds(n, 1));
        }
    }

    private void compareReadings() {
        for (int number = 0; number < 8; number++) {
            int s = chance.nextInt(switches);
            int l = chance.nextInt(lamps);
            boolean wired = (model.ofSwitch(s, 3) >> l & 1) == 1;
            int so = wired ? model.ofSwitch(s, 2) % model.ofLamp(l, 0) : 0;
            int v = chance.nextInt(8) == 0 ? chance.nextInt(5) : so;
            due("reading", x.reading(s, l, v), model.reading(s, l, v));
            for (int at = 0; at < switches; at++) {
                due("turnings", x.turnings(at), model.turnings(at));
                due("kinds", x.kinds(at), model.kinds(at));
            }
            for (int at = 0; at < lamps; at++) {
                due("shadings", x.shadings(at), model.shadings(at));
            }
        }
    }
}
