import java.util.function.Supplier;
import java.util.function.ToLongFunction;

/** Counts answers and tells those that are not as due. */
final class Check {
    static final int UNKNOWN = -1, OUTSIDE = -2, STATE = -3, FULL = -4, NONE = -9;
    static final int NULL = -11, CAST = -12, INDEX = -13, SIZE = -14;
    static final int BYTES = 0, SHORTS = 1, INTS = 2;
    static final long LOST = Long.MIN_VALUE;
    static final int LEAST = Integer.MIN_VALUE, MOST = Integer.MAX_VALUE;
    /** Numbers that are no lamp, switch, sheet, lane, kind. */
    static final int[] NOWHERE = {-1, 5, 6, 100, LEAST, MOST};

    private final String name;
    private String sentence = "";
    private int answersToSentence;
    private int calls;
    private int wrong;

    Check(String name) {
        this.name = name;
    }

    /** The words of the document that the answers from here on would not be so without. */
    void says(String words) {
        endSentence();
        sentence = " [" + words + "]";
        answersToSentence = 0;
    }

    private void endSentence() {
        if (!sentence.isEmpty() && answersToSentence == 0) {
            wrong++;
            System.out.println(name + sentence + ": nothing was asked");
        }
    }

    void due(String call, long got, long want) {
        calls++;
        answersToSentence++;
        if (got != want) {
            wrong++;
            System.out.println(name + sentence + ": " + call + " answered " + got + ", due is " + want);
        }
    }

    /** What a call that names faults answers, and what fault() tells behind it. */
    void dueWithFault(String call, LampSwitches x, long got, long want) {
        due(call, got, want);
        due("fault() behind " + call, x.fault(), want <= NULL && want >= SIZE ? -10 - want : 0);
    }

    /** What a call answers, what fault() tells then, and that all else is as if it had not been called. */
    void dueUnchanged(String call, Supplier<LampSwitches> made, ToLongFunction<LampSwitches> asked, long want,
            int fault) {
        LampSwitches x = made.get();
        due(call, asked.applyAsLong(x), want);
        due("fault() behind " + call, x.fault(), fault);
        String with = Seen.of(x);
        String without = Seen.of(made.get());
        due(call + " left " + with + " of " + without, with.equals(without) ? 1 : 0, 1);
    }

    /** The shades of all lamps. */
    void dueShades(String when, LampSwitches x, int... shades) {
        due("many(0) " + when, x.many(0), shades.length);
        for (int l = 0; l < shades.length; l++) {
            due("ofLamp(" + l + ", 1) " + when, x.ofLamp(l, 1), shades[l]);
        }
    }

    /** All cells of a sheet, and that there are no more. */
    void dueCells(String when, LampSwitches x, int k, int lane, int... cells) {
        for (int i = 0; i < cells.length; i++) {
            due("cell(" + k + ", " + i + ", " + lane + ") " + when, x.cell(k, i, lane), cells[i]);
        }
        due("the cell behind the last " + when, x.cell(k, cells.length, lane), LOST);
        due("its fault " + when, x.fault(), 3);
    }

    /** Ends the test, with exit code 1 if an answer was not as due. */
    void end() {
        endSentence();
        System.out.println(name + ": " + calls + " answers, " + wrong + " not as due");
        if (wrong != 0) {
            System.exit(1);
        }
    }

    static LampSwitches withHall(String text) {
        LampSwitches x = new LampSwitches();
        if (take(x, text) < 0) {
            throw new IllegalStateException("no text: " + text);
        }
        return x;
    }

    /** hall() of a text, by sheet 0. */
    static int take(LampSwitches x, String text) {
        write(x, 0, BYTES, text.chars().toArray());
        return x.hall(0, BYTES, 0, text.length());
    }

    static void write(LampSwitches x, int k, int lane, int... cells) {
        x.sheet(k, lane, cells.length);
        for (int i = 0; i < cells.length; i++) {
            x.put(k, i, cells[i]);
        }
    }
}
