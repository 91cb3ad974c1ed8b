import java.util.function.IntUnaryOperator;
import java.util.function.ToIntFunction;

/** Looks at bounds: what is taken and what is not, what a refused call counts, and what stays by it. */
final class Bounds {
    static final int TAPE = 0;
    static final int TOLD = 1;
    static final int LAID = 2;
    static final int TURNED = 3;
    static final int UNDO = 4;
    static final int SEED = 5;
    private static final int REFUSALS = 6;

    private final Due due;

    Bounds(Due due) {
        this.due = due;
    }

    /** A net with acts, rows seen and an image, so that each thing that goes is missed. */
    static RiverRanks standing() {
        RiverRanks x = Due.rivers("abcd a>c5+7=x b>c3+4=y c>d9=x");
        x.seed(4711);
        x.add(0, 1, 6, 0);
        x.gives(2, 8);
        Due.tape(x, 2, 1, 0, 0);
        x.see();
        x.image();
        x.gives(1, 50);
        return x;
    }

    /** All that can be asked without an act, but for the latest fault and what was refused. */
    static String whole(RiverRanks x) {
        StringBuilder told = new StringBuilder();
        for (int what = 0; what <= 9; what++) {
            told.append(x.has(what)).append(' ');
        }
        for (int p = 0; p < x.has(0); p++) {
            told.append(name(x, 0, p)).append(x.wave(p, 2)).append(' ').append(x.beyond(p, 1)).append(' ');
        }
        for (int w = 0; w < x.has(2); w++) {
            told.append(name(x, 1, w));
        }
        for (int r = 0; r < x.has(1); r++) {
            for (int what = 0; what <= 5; what++) {
                told.append(x.reach(r, what)).append(' ');
            }
            told.append(x.rank(r, 0, 0)).append(' ').append(x.rank(r, 2, 1)).append(' ').append(x.goes(r, 2, 0)).append(' ');
        }
        for (int kind = 0; kind < 4; kind++) {
            told.append(x.changed(kind)).append(' ');
        }
        told.append(x.fits()).append(' ').append(x.tells(0)).append(' ');
        for (int k = 0; k <= 153 && x.octet(k) != RiverRanks.NONE; k++) {
            told.append(x.octet(k)).append(' ');
        }
        return told.toString();
    }

    private static String name(RiverRanks x, int kind, int which) {
        StringBuilder name = new StringBuilder();
        for (int k = 0; k < 6 && x.letter(kind, which, k) > 0; k++) {
            name.append((char) ('a' - 1 + x.letter(kind, which, k)));
        }
        return name.append(' ').toString();
    }

    /** How many bytes are on the tape; at most 1580 may be. */
    static int onTape(RiverRanks x) {
        int many = x.feed(0, 0, 0, 0, 0) - 20;
        x.end(many);
        return many;
    }

    private static int[] counts(RiverRanks x) {
        int[] counts = new int[REFUSALS];
        for (int what = 0; what < REFUSALS; what++) {
            counts[what] = x.status(what);
        }
        return counts;
    }

    private void countsAre(String what, RiverRanks x, int[] counts) {
        for (int kind = 0; kind < REFUSALS; kind++) {
            due.due(what + ": status " + kind, x.status(kind), counts[kind]);
        }
    }

    /** The answer of a refused call, one refusal more of that kind alone, and that all stays. */
    void refused(String what, RiverRanks x, int kind, int answer, ToIntFunction<RiverRanks> call) {
        String ahead = whole(x);
        int[] counts = counts(x);
        counts[kind]++;
        due.due(what, call.applyAsInt(x), answer);
        countsAre(what, x, counts);
        String behind = whole(x);
        due.due(what + ": all stays: " + ahead + "; " + behind, behind.equals(ahead), true);
    }

    /** The answer of a call that is taken, and that nothing was refused. */
    void taken(String what, RiverRanks x, int answer, ToIntFunction<RiverRanks> call) {
        int[] counts = counts(x);
        due.due(what, call.applyAsInt(x), answer);
        countsAre(what, x, counts);
    }

    /** What is asked and not there is NONE, but no refusal. */
    void nothingRefused(String what, RiverRanks x) {
        countsAre(what, x, new int[REFUSALS]);
    }

    /** A text with a fault: where it is, and that the net that stands stays while the tape goes. */
    void fault(String text, int which, int at) {
        RiverRanks x = standing();
        Due.tape(x, text);
        refused("net: " + text, x, TOLD, RiverRanks.NONE, RiverRanks::net);
        due.due("fault of: " + text, x.fault(0), which);
        due.due("its place in: " + text, x.fault(1), at);
        due.due("the tape behind: " + text, onTape(x), 0);
    }

    /** A text without a fault, read where a net stands; what was goes. */
    RiverRanks fine(String text, int statements) {
        RiverRanks x = standing();
        Due.tape(x, text);
        taken("net: " + text, x, statements, RiverRanks::net);
        due.due("fault of: " + text, x.fault(0), 0);
        due.due("its place in: " + text, x.fault(1), RiverRanks.NONE);
        due.due("the tape behind: " + text, onTape(x), 0);
        due.due("reaches of: " + text, x.has(1), statements - 1);
        due.due("acts behind: " + text, x.has(6), 0);
        due.due("rows seen behind: " + text, x.has(7), 0);
        due.due("changed behind: " + text, x.changed(0), RiverRanks.NONE);
        return x;
    }

    /** Numbers from the first to the last have an answer, those on both sides have none. */
    void from(int first, int last, String what, IntUnaryOperator ask) {
        for (int n = first; n <= last; n++) {
            due.due(what + " of " + n + " is there", ask.applyAsInt(n) != RiverRanks.NONE, true);
        }
        none(what, ask, first - 1, last + 1);
        int[] wide = {32, 64, 256, 65536, Integer.MIN_VALUE, Integer.MAX_VALUE};
        for (int by : wide) {
            none(what, ask, first + by, last + by);
            none(what, ask, first - by, last - by);
        }
    }

    void none(String what, IntUnaryOperator ask, int... numbers) {
        for (int n : numbers) {
            due.due(what + " of " + n, ask.applyAsInt(n), RiverRanks.NONE);
        }
    }

    static int bool(boolean answer) {
        return answer ? 1 : 0;
    }
}
