import java.util.Arrays;
import java.util.function.ToIntFunction;

/** The bounds that the document names of acts, the seed, undoing, images and refusals: promises 32 to 44. */
final class ActBoundsTest {
    private static final Due DUE = new Due();
    private static final Bounds BOUNDS = new Bounds(DUE);
    private static final String CHAIN = "abcd a>b8 b>c9 c>d5";

    public static void main(String[] args) {
        adds();
        drops();
        cuts();
        turns();
        gives();
        calls();
        chances();
        draws();
        undoes();
        seeds();
        images();
        imagesRead();
        statuses();
        DUE.close("ActBoundsTest");
    }

    private static void refusedAct(String what, int kind, int answer, ToIntFunction<RiverRanks> call) {
        RiverRanks x = Bounds.standing();
        BOUNDS.refused(what, x, kind, answer, call);
        DUE.due(what + ": the act ahead can be undone", x.undo(), true);
        DUE.due(what + ": its yield", x.reach(1, 3), 4);
    }

    /** An act that is taken is one act more, and undoing it brings all back but what changed() tells. */
    private static RiverRanks takenAct(String what, int answer, ToIntFunction<RiverRanks> call) {
        RiverRanks x = Bounds.standing();
        String ahead = net(x);
        BOUNDS.taken(what, x, answer, call);
        DUE.due(what + ": acts", x.has(6), 4);
        DUE.due(what + ": changed", x.changed(0) != -1, true);
        DUE.due(what + ": undo", x.undo(), true);
        DUE.due(what + ": undone", net(x).equals(ahead), true);
        DUE.due(what + ": acts", x.has(6), 3);
        DUE.due(what + ": changed", x.changed(0), -1);
        RiverRanks y = Bounds.standing();
        call.applyAsInt(y);
        return y;
    }

    private static String net(RiverRanks x) {
        StringBuilder told = new StringBuilder();
        told.append(x.has(0)).append(' ').append(x.has(2)).append(' ').append(x.has(7)).append(' ').append(x.fits());
        for (int r = 0; r < x.has(1); r++) {
            for (int what = 0; what <= 6; what++) {
                told.append(' ').append(x.reach(r, what));
            }
        }
        return told.toString();
    }

    private static void reachIs(String what, RiverRanks x, int reach, int... due) {
        for (int asked = 0; asked < due.length; asked++) {
            DUE.due(what + ": reach " + reach + ", " + asked, x.reach(reach, asked), due[asked]);
        }
    }

    private static void adds() {
        addedLengthAndYield();
        addedPlaces();
        addedRing();
        thirtyAdded();
    }

    /** Promise 32: "of a LENGTH, a YIELD", "or these can't be"; terms II: "(the last number, not called)". */
    private static void addedLengthAndYield() {
        int[][] fine = {{1, 0}, {1, 99}, {99, 0}, {99, 99}};
        for (int[] f : fine) {
            RiverRanks x = takenAct("add " + f[0] + ", " + f[1], 4, y -> y.add(0, 3, f[0], f[1]));
            reachIs("added", x, 4, 0, 3, f[0], f[1], -1);
            DUE.due("reaches", x.has(1), 5);
        }
        int[] wrong = {-1, 100, 101, 256, Integer.MIN_VALUE, Integer.MAX_VALUE};
        for (int n : wrong) {
            refusedAct("length " + n, Bounds.LAID, -1, y -> y.add(0, 3, n, 0));
            refusedAct("yield " + n, Bounds.LAID, -1, y -> y.add(0, 3, 1, n));
        }
        refusedAct("length 0", Bounds.LAID, -1, y -> y.add(0, 3, 0, 0));
    }

    /** Promise 32: "from a PLACE to another one". */
    private static void addedPlaces() {
        takenAct("to the last place", 4, y -> y.add(0, 3, 1, 0));
        takenAct("from the first place", 4, y -> y.add(0, 1, 1, 0));
        for (int p : new int[] {-1, 4, 20, 32, Integer.MIN_VALUE, Integer.MAX_VALUE}) {
            refusedAct("from place " + p, Bounds.LAID, -1, y -> y.add(p, 3, 1, 0));
            refusedAct("to place " + p, Bounds.LAID, -1, y -> y.add(0, p, 1, 0));
        }
        RiverRanks none = new RiverRanks();
        BOUNDS.refused("without places", none, Bounds.LAID, -1, y -> y.add(0, 0, 1, 0));
        BOUNDS.refused("without places", none, Bounds.LAID, -1, y -> y.add(0, 1, 1, 0));
    }

    /** Promise 32: "refused (2), when it would close a ring". */
    private static void addedRing() {
        refusedAct("from the mouth to a source", Bounds.LAID, -1, y -> y.add(3, 0, 1, 0));
        refusedAct("back along one", Bounds.LAID, -1, y -> y.add(2, 1, 1, 0));
        for (int p = 0; p < 4; p++) {
            int place = p;
            refusedAct("itself", Bounds.LAID, -1, y -> y.add(place, place, 1, 0));
        }
        takenAct("along one", 4, y -> y.add(1, 2, 1, 0));
        RiverRanks x = Due.rivers("abcdefghijklmnopqrst");
        for (int p = 19; p > 0; p--) {
            DUE.due("a chain", x.add(p, p - 1, 1, 0), 19 - p);
        }
        DUE.due("a ring of twenty", x.add(0, 19, 1, 0), -1);
        DUE.due("none", x.add(19, 0, 1, 0), 19);
    }

    /** Promise 32: "there are 30". */
    private static void thirtyAdded() {
        RiverRanks x = Due.rivers("ab");
        for (int r = 0; r < 30; r++) {
            DUE.due("add " + r, x.add(0, 1, 1, 0), r);
        }
        DUE.due("reaches", x.has(1), 30);
        DUE.due("a 31st", x.add(0, 1, 1, 0), -1);
        DUE.due("status", x.status(2), 1);
        DUE.due("reaches", x.has(1), 30);
        DUE.due("drop", x.drop(29), true);
        DUE.due("a 30th", x.add(0, 1, 1, 0), 29);
    }

    /** Promise 33: "false, refused (2), when there is none such"; terms II: "(those behind have numbers 1 less)". */
    private static void drops() {
        for (int r : new int[] {-1, 4, 30, 32, Integer.MIN_VALUE, Integer.MAX_VALUE}) {
            refusedAct("drop " + r, Bounds.LAID, 0, y -> Bounds.bool(y.drop(r)));
        }
        RiverRanks x = takenAct("drop the last", 1, y -> Bounds.bool(y.drop(3)));
        reachIs("the last gone", x, 2, 2, 3, 9, 8, 0);
        DUE.due("none of that number", x.reach(3, 0), -1);
        x = takenAct("drop the first", 1, y -> Bounds.bool(y.drop(0)));
        reachIs("the first gone", x, 0, 1, 2, 3, 50, 1);
        reachIs("the first gone", x, 1, 2, 3, 9, 8, 0);
        reachIs("the first gone", x, 2, 0, 1, 6, 0, -1);
        DUE.due("none of that number", x.reach(3, 0), -1);
        DUE.due("places stay", x.has(0), 4);
        RiverRanks one = Due.rivers("ab a>b1");
        BOUNDS.taken("drop the only one", one, 1, y -> Bounds.bool(y.drop(0)));
        BOUNDS.refused("drop of none", one, Bounds.LAID, 0, y -> Bounds.bool(y.drop(0)));
        RiverRanks none = new RiverRanks();
        BOUNDS.refused("drop without a net", none, Bounds.LAID, 0, y -> Bounds.bool(y.drop(0)));
    }

    private static void cuts() {
        cutAt();
        cutReach();
        twentyPlaces();
        thirtyReaches();
    }

    /** Promise 34: "at n (1 .. LENGTH less 1)". */
    private static void cutAt() {
        for (int n : new int[] {1, 2, 7, 8}) {
            RiverRanks x = takenAct("cut at " + n, 4, y -> y.cut(2, n));
            reachIs("the upper", x, 2, 2, 4, n, 8, 0);
            reachIs("the lower", x, 4, 4, 3, 9 - n, 0, 0);
            DUE.due("places", x.has(0), 5);
            DUE.due("no name", x.letter(0, 4, 0), 0);
        }
        for (int n : new int[] {-1, 0, 9, 10, 99, Integer.MIN_VALUE, Integer.MAX_VALUE}) {
            refusedAct("cut at " + n, Bounds.LAID, -1, y -> y.cut(2, n));
        }
        RiverRanks x = Due.rivers("abc a>b1 b>c2");
        BOUNDS.refused("of length 1", x, Bounds.LAID, -1, y -> y.cut(0, 0));
        BOUNDS.refused("of length 1", x, Bounds.LAID, -1, y -> y.cut(0, 1));
        BOUNDS.refused("of length 2", x, Bounds.LAID, -1, y -> y.cut(1, 2));
        BOUNDS.taken("of length 2", x, 3, y -> y.cut(1, 1));
        reachIs("not called", x, 2, 3, 2, 1, 0, -1);
        x = Due.rivers("ab a>b99");
        BOUNDS.refused("of length 99", x, Bounds.LAID, -1, y -> y.cut(0, 99));
        BOUNDS.taken("of length 99", x, 2, y -> y.cut(0, 98));
    }

    /** Promise 34: "or there is none such". */
    private static void cutReach() {
        for (int r : new int[] {-1, 4, 30, 32, Integer.MIN_VALUE, Integer.MAX_VALUE}) {
            refusedAct("cut of " + r, Bounds.LAID, -1, y -> y.cut(r, 1));
        }
        takenAct("cut of the first", 4, y -> y.cut(0, 1));
        takenAct("cut of the last", 4, y -> y.cut(3, 1));
        BOUNDS.refused("without a net", new RiverRanks(), Bounds.LAID, -1, y -> y.cut(0, 1));
    }

    /** Promise 34: "there are 20 PLACES". */
    private static void twentyPlaces() {
        RiverRanks x = Due.rivers("abcdefghijklmnopqr a>b9");
        BOUNDS.taken("a 19th place", x, 18, y -> y.cut(0, 8));
        BOUNDS.taken("a 20th place", x, 19, y -> y.cut(0, 7));
        DUE.due("a 21st place", x.cut(0, 6), -1);
        DUE.due("status", x.status(2), 1);
        DUE.due("places", x.has(0), 20);
        DUE.due("reaches", x.has(1), 3);
        reachIs("it stays", x, 0, 0, 19, 7, 0, -1);
        DUE.due("undo", x.undo(), true);
        DUE.due("a 20th place", x.cut(0, 1), 19);
    }

    /** Promise 34: "30 REACHES". */
    private static void thirtyReaches() {
        RiverRanks x = Due.rivers("ab a>b9");
        for (int r = 1; r < 29; r++) {
            x.add(0, 1, 9, 0);
        }
        BOUNDS.taken("the 30th reach", x, 2, y -> y.cut(28, 4));
        DUE.due("reaches", x.has(1), 30);
        DUE.due("a 31st reach", x.cut(27, 4), -1);
        DUE.due("status", x.status(2), 1);
        DUE.due("places", x.has(0), 3);
        reachIs("it stays", x, 27, 0, 1, 9, 0, -1);
    }

    /** Promise 35: "false, refused (3), when it can't be, or there is none such". */
    private static void turns() {
        RiverRanks x = takenAct("turn the last", 1, y -> Bounds.bool(y.turn(3)));
        reachIs("turned", x, 3, 1, 0, 6, 0, -1);
        x = takenAct("turn one", 1, y -> Bounds.bool(y.turn(2)));
        reachIs("turned", x, 2, 3, 2, 9, 8, 0);
        refusedAct("a ring", Bounds.TURNED, 0, y -> Bounds.bool(y.turn(0)));
        for (int r : new int[] {-1, 4, 30, 32, Integer.MIN_VALUE, Integer.MAX_VALUE}) {
            refusedAct("turn " + r, Bounds.TURNED, 0, y -> Bounds.bool(y.turn(r)));
        }
        RiverRanks two = Due.rivers("ab a>b1 a>b1");
        BOUNDS.refused("side by side", two, Bounds.TURNED, 0, y -> Bounds.bool(y.turn(0)));
        BOUNDS.refused("side by side", two, Bounds.TURNED, 0, y -> Bounds.bool(y.turn(1)));
        two.drop(1);
        BOUNDS.taken("alone", two, 1, y -> Bounds.bool(y.turn(0)));
        BOUNDS.refused("without a net", new RiverRanks(), Bounds.TURNED, 0, y -> Bounds.bool(y.turn(0)));
    }

    /** Promise 36: "Another YIELD (0 .. 99)", "false, refused (3), when it is that, or these can't be". */
    private static void gives() {
        for (int gift : new int[] {0, 1, 49, 51, 98, 99}) {
            RiverRanks x = takenAct("gives " + gift, 1, y -> Bounds.bool(y.gives(1, gift)));
            DUE.due("yield", x.reach(1, 3), gift);
        }
        refusedAct("it is that", Bounds.TURNED, 0, y -> Bounds.bool(y.gives(1, 50)));
        for (int gift : new int[] {-2, -1, 100, 101, 306, Integer.MIN_VALUE, Integer.MAX_VALUE}) {
            refusedAct("gives " + gift, Bounds.TURNED, 0, y -> Bounds.bool(y.gives(1, gift)));
        }
        for (int r : new int[] {-1, 4, 30, 32, Integer.MIN_VALUE, Integer.MAX_VALUE}) {
            refusedAct("of " + r, Bounds.TURNED, 0, y -> Bounds.bool(y.gives(r, 9)));
        }
        RiverRanks x = Due.rivers("ab a>b1 a>b1+99");
        BOUNDS.refused("it is 0", x, Bounds.TURNED, 0, y -> Bounds.bool(y.gives(0, 0)));
        BOUNDS.refused("it is 99", x, Bounds.TURNED, 0, y -> Bounds.bool(y.gives(1, 99)));
        BOUNDS.refused("without a net", new RiverRanks(), Bounds.TURNED, 0, y -> Bounds.bool(y.gives(0, 1)));
    }

    private static void calls() {
        calledOrNot();
        noRivers();
        tenRivers();
    }

    /** Promise 37: "(NONE: not any more)", "false, refused (3), when it is so, or there are none such". */
    private static void calledOrNot() {
        RiverRanks x = takenAct("not any more", 1, y -> Bounds.bool(y.call(0, -1)));
        DUE.due("river", x.reach(0, 4), -1);
        DUE.due("rivers", x.has(2), 2);
        x = takenAct("the last river", 1, y -> Bounds.bool(y.call(0, 1)));
        DUE.due("river", x.reach(0, 4), 1);
        x = takenAct("the first river", 1, y -> Bounds.bool(y.call(3, 0)));
        DUE.due("river", x.reach(3, 4), 0);
        refusedAct("it is so", Bounds.TURNED, 0, y -> Bounds.bool(y.call(0, 0)));
        refusedAct("it is so", Bounds.TURNED, 0, y -> Bounds.bool(y.call(1, 1)));
        refusedAct("it is not", Bounds.TURNED, 0, y -> Bounds.bool(y.call(3, -1)));
        for (int w : new int[] {-2, 2, 10, 255, Integer.MIN_VALUE, Integer.MAX_VALUE}) {
            refusedAct("river " + w, Bounds.TURNED, 0, y -> Bounds.bool(y.call(0, w)));
        }
        for (int r : new int[] {-1, 4, 30, 32, Integer.MIN_VALUE, Integer.MAX_VALUE}) {
            refusedAct("reach " + r, Bounds.TURNED, 0, y -> Bounds.bool(y.call(r, 0)));
            refusedAct("reach " + r, Bounds.TURNED, 0, y -> Bounds.bool(y.call(r, -1)));
        }
    }

    private static void noRivers() {
        RiverRanks x = Due.rivers("ab a>b1");
        BOUNDS.refused("no rivers", x, Bounds.TURNED, 0, y -> Bounds.bool(y.call(0, 0)));
        BOUNDS.refused("it is not", x, Bounds.TURNED, 0, y -> Bounds.bool(y.call(0, -1)));
        BOUNDS.refused("without a net", new RiverRanks(), Bounds.TURNED, 0, y -> Bounds.bool(y.call(0, -1)));
        // A river that no reach is called any more is still one.
        x = Due.rivers("ab a>b1=x");
        x.call(0, -1);
        BOUNDS.taken("called again", x, 1, y -> Bounds.bool(y.call(0, 0)));
    }

    private static void tenRivers() {
        StringBuilder told = new StringBuilder("ab a>b1");
        for (char c = 'a'; c < 'k'; c++) {
            told.append(" a>b9=").append(c);
        }
        RiverRanks x = Due.rivers(told.toString());
        DUE.due("an 11th river", x.call(0, 10), false);
        DUE.due("the 10th river", x.call(0, 9), true);
        DUE.due("river", x.reach(0, 4), 9);
        DUE.due("undo", x.undo(), true);
        DUE.due("river", x.reach(0, 4), -1);
        DUE.due("redone", x.call(0, 8), true);
        DUE.due("undo of another", x.gives(10, 3) && x.undo(), true);
        DUE.due("river", x.reach(10, 4), 9);
        DUE.due("status", x.status(3), 1);
    }

    private static void chances() {
        timesByTheSeed();
        oneAct();
        noReaches();
        whatCanNotBe();
    }

    /** Promise 38: "n times by the seed (1 .. 40)", "refused (3), when n can't be". */
    private static void timesByTheSeed() {
        for (int n : new int[] {-1, 0, 41, 42, 296, Integer.MIN_VALUE, Integer.MAX_VALUE}) {
            refusedAct("chance " + n, Bounds.TURNED, -1, y -> y.chance(n));
            // The seed stays by it.
            RiverRanks x = Due.rivers(CHAIN);
            RiverRanks y = Due.rivers(CHAIN);
            x.chance(n);
            x.chance(12);
            y.chance(12);
            DUE.due("the seed stays by chance " + n, net(x).equals(net(y)), true);
        }
        for (int n : new int[] {1, 2, 39, 40}) {
            RiverRanks x = Due.rivers(CHAIN);
            RiverRanks y = Due.rivers(CHAIN);
            byHand(y, new Draws(1), n);
            BOUNDS.taken("chance " + n, x, y.has(1), z -> z.chance(n));
            DUE.due("chance " + n, net(x).equals(net(y)), true);
        }
    }

    /** Promise 38: "one ACT"; 39: "the seed .. stay" by undoing it. */
    private static void oneAct() {
        RiverRanks x = Due.rivers(CHAIN);
        String ahead = net(x);
        x.chance(40);
        DUE.due("acts", x.has(6), 1);
        DUE.due("undo", x.undo(), true);
        DUE.due("undone", net(x).equals(ahead), true);
        DUE.due("acts", x.has(6), 0);
        x.chance(7);
        RiverRanks y = Due.rivers(CHAIN);
        Draws draws = new Draws(1);
        byHand(y, draws, 40);
        y = Due.rivers(CHAIN);
        byHand(y, draws, 7);
        DUE.due("the seed is not undone", net(x).equals(net(y)), true);
    }

    /** Promise 38: "or there are no REACHES". */
    private static void noReaches() {
        RiverRanks[] without = {new RiverRanks(), Due.rivers("ab"), Due.rivers("ab a>b1")};
        without[2].drop(0);
        for (RiverRanks x : without) {
            BOUNDS.refused("no reaches", x, Bounds.TURNED, -1, y -> y.chance(1));
            BOUNDS.refused("no reaches", x, Bounds.TURNED, -1, y -> y.chance(40));
        }
        RiverRanks one = Due.rivers("ab a>b1");
        BOUNDS.taken("one reach", one, 1, y -> y.chance(1));
    }

    /** Terms II: "0 it is TURNED, if it can be", "2 it is CUT .., if it can be", "3 .., if it can be". */
    private static void whatCanNotBe() {
        RiverRanks x = byChance("ab a>b1 a>b1", 0, 0, NO_DRAW);
        reachIs("can't be turned", x, 0, 0, 1, 1, 0, -1);
        x = byChance("ab a>b1", 0, 0, NO_DRAW);
        reachIs("turned", x, 0, 1, 0, 1, 0, -1);
        x = byChance("ab a>b1+5", 1, 0, 0);
        DUE.due("yield 0", x.reach(0, 3), 0);
        x = byChance("ab a>b1+5", 1, 0, 99);
        DUE.due("yield 99", x.reach(0, 3), 99);
        x = byChance("ab a>b1", 2, 0, NO_DRAW);
        DUE.due("a length of 1 can't be cut", x.has(0), 2);
        x = byChance("ab a>b2=q", 2, 0, NO_DRAW);
        reachIs("cut", x, 0, 0, 2, 1, 0, 0);
        reachIs("cut", x, 1, 2, 1, 1, 0, 0);
        x = byChance("ab a>b99", 2, 0, NO_DRAW);
        DUE.due("cut in its middle", x.reach(0, 2), 49);
        DUE.due("what is left", x.reach(1, 2), 50);
        x = byChance("abcdefghijklmnopqrst a>b9", 2, 0, NO_DRAW);
        DUE.due("20 places", x.has(0), 20);
        DUE.due("20 places", x.has(1), 1);
        x = byChance("abc a>b9", 3, 0, 2);
        reachIs("one comes", x, 1, 1, 2, 10, 0, -1);
        x = byChance("abc a>b9", 3, 0, 0);
        DUE.due("a ring can't be", x.has(1), 1);
        x = byChance("abc a>b9", 3, 0, 1);
        DUE.due("itself can't be", x.has(1), 1);
        StringBuilder thirty = new StringBuilder("abc");
        for (int r = 0; r < 30; r++) {
            thirty.append(" a>b9");
        }
        x = byChance(thirty.toString(), 3, 29, 2);
        DUE.due("a 31st can't be", x.has(1), 30);
        x = byChance(thirty.toString(), 2, 0, NO_DRAW);
        DUE.due("a 31st can't be", x.has(1), 30);
        DUE.due("nor a place", x.has(0), 3);
    }

    private static final int NO_DRAW = -1;

    /** A net behind one act of a kind by the seed, that falls on a reach; one that can't be is an act too. */
    private static RiverRanks byChance(String told, int what, int reach, int third) {
        RiverRanks x = Due.rivers(told);
        int of = what == 1 ? 100 : x.has(0);
        for (int seed = 0; seed < 4000000; seed++) {
            Draws draws = new Draws(seed);
            if (draws.of(4) == what && draws.of(x.has(1)) == reach && (third == NO_DRAW || draws.of(of) == third)) {
                x.seed(seed);
                int many = x.chance(1);
                DUE.due("reaches", x.has(1), many);
                DUE.due("an act", x.has(6), 1);
                DUE.due("nothing refused", x.status(2) + x.status(3), 0);
                return x;
            }
        }
        DUE.due("a seed for " + told, false, true);
        return x;
    }

    /** Terms II: "x (the seed) becomes (1103515245 x + 12345) mod 2 to the 31; floor(x / 64) mod m". */
    private static void draws() {
        for (int seed : new int[] {0, 1, 2, 63, 64, 65535, 65536, 1 << 30, Integer.MAX_VALUE - 1, Integer.MAX_VALUE}) {
            RiverRanks x = Due.rivers(CHAIN);
            RiverRanks y = Due.rivers(CHAIN);
            BOUNDS.taken("seed " + seed, x, 1, z -> Bounds.bool(z.seed(seed)));
            Draws draws = new Draws(seed);
            for (int n = 0; n < 8; n++) {
                x.chance(3);
                byHand(y, draws, 3);
                DUE.due("seed " + seed + ", behind " + n, net(x).equals(net(y)), true);
            }
        }
    }

    /** The draws of the document, in numbers that do not wrap. */
    private static final class Draws {
        private long x;

        Draws(long seed) {
            x = seed;
        }

        int of(int m) {
            x = (1103515245L * x + 12345L) % (1L << 31);
            return (int) (x / 64 % m);
        }
    }

    private static void byHand(RiverRanks x, Draws draws, int times) {
        for (int i = 0; i < times; i++) {
            int what = draws.of(4);
            int reach = draws.of(x.has(1));
            if (what == 0) {
                x.turn(reach);
            } else if (what == 1) {
                x.gives(reach, draws.of(100));
            } else if (what == 2) {
                x.cut(reach, x.reach(reach, 2) / 2);
            } else {
                x.add(x.reach(reach, 1), draws.of(x.has(0)), 10, 0);
            }
        }
    }

    private static void undoes() {
        lastTwenty();
        lastTwentyOfThirty();
        noneCanBe();
        whatStays();
        eachKindOfAct();
    }

    /** Terms II: "The last 20 can be undone." */
    private static void lastTwenty() {
        for (int acts : new int[] {0, 1, 19, 20, 21, 22, 39, 40, 41, 45}) {
            RiverRanks x = Due.rivers("ab a>b1");
            for (int i = 1; i <= acts; i++) {
                x.gives(0, i);
            }
            int can = Math.min(acts, 20);
            DUE.due(acts + " acts", x.has(6), can);
            for (int i = 1; i <= can; i++) {
                DUE.due(acts + " acts, undo " + i, x.undo(), true);
                DUE.due(acts + " acts, yield behind " + i, x.reach(0, 3), acts - i);
                DUE.due(acts + " acts, left behind " + i, x.has(6), can - i);
            }
            BOUNDS.refused(acts + " acts, one undo more", x, Bounds.UNDO, 0, y -> Bounds.bool(y.undo()));
            DUE.due(acts + " acts, the yield stays", x.reach(0, 3), acts - can);
        }
    }

    /** The last 20 of the fullest net, each with its last reach. */
    private static void lastTwentyOfThirty() {
        RiverRanks x = Due.rivers("ab a>b1");
        for (int r = 1; r < 30; r++) {
            x.add(0, 1, 99, 99);
        }
        for (int i = 1; i <= 25; i++) {
            x.gives(29, i);
        }
        for (int i = 24; i >= 5; i--) {
            DUE.due("undo", x.undo(), true);
            DUE.due("reaches", x.has(1), 30);
            DUE.due("places", x.has(0), 2);
            reachIs("the last", x, 29, 0, 1, 99, i, -1);
        }
        DUE.due("no more", x.undo(), false);
    }

    /** Promise 39: "false, refused (4), when none can be". */
    private static void noneCanBe() {
        BOUNDS.refused("a new one", new RiverRanks(), Bounds.UNDO, 0, y -> Bounds.bool(y.undo()));
        BOUNDS.refused("no act", Due.rivers(CHAIN), Bounds.UNDO, 0, y -> Bounds.bool(y.undo()));
        RiverRanks x = Due.rivers(CHAIN);
        x.drop(3);
        x.gives(0, 0);
        x.seed(3);
        x.image();
        BOUNDS.refused("refused ones are no acts", x, Bounds.UNDO, 0, y -> Bounds.bool(y.undo()));
        x.gives(0, 1);
        BOUNDS.taken("an act", x, 1, y -> Bounds.bool(y.undo()));
        BOUNDS.refused("undone already", x, Bounds.UNDO, 0, y -> Bounds.bool(y.undo()));
    }

    /** Promise 39: "(the seed, what is SEEN stay)", and what was refused, and the latest image. */
    private static void whatStays() {
        RiverRanks x = Due.rivers(CHAIN);
        x.gives(0, 1);
        x.seed(77);
        Due.tape(x, 2, 1);
        x.see();
        x.image();
        x.gives(0, 2);
        x.drop(9);
        int octet = x.octet(5);
        Due.tape(x, "places z;");
        BOUNDS.taken("undo", x, 1, y -> Bounds.bool(y.undo()));
        DUE.due("rows", x.has(7), 1);
        DUE.due("fits", x.fits(), Due.bits(0, 1, 2));
        DUE.due("the image", x.octet(5), octet);
        DUE.due("the tape", Bounds.onTape(x), 9);
        DUE.due("the names", x.letter(0, 3, 0), 4);
        x.undo();
        x.chance(15);
        RiverRanks y = Due.rivers(CHAIN);
        byHand(y, new Draws(77), 15);
        DUE.due("the seed stays", Arrays.equals(bytesOf(x), bytesOf(y)), true);
    }

    /** Acts of each kind are undone one behind another, and names behind a cut are as they were. */
    private static void eachKindOfAct() {
        RiverRanks x = Due.rivers("abcd a>c5+7=x b>c3+4=y c>d9=x");
        String[] ahead = new String[8];
        ahead[0] = net(x);
        x.add(0, 1, 99, 99);
        ahead[1] = net(x);
        x.cut(2, 4);
        ahead[2] = net(x);
        x.turn(2);
        ahead[3] = net(x);
        x.gives(0, 99);
        ahead[4] = net(x);
        x.call(0, 1);
        ahead[5] = net(x);
        x.drop(1);
        ahead[6] = net(x);
        x.chance(40);
        for (int i = 6; i >= 0; i--) {
            DUE.due("undo", x.undo(), true);
            DUE.due("as behind act " + i, net(x).equals(ahead[i]), true);
        }
        DUE.due("no more", x.undo(), false);
        for (int p = 0; p < 4; p++) {
            DUE.due("name " + p, x.letter(0, p, 0), p + 1);
        }
        DUE.due("no other place", x.letter(0, 4, 0), -1);
    }

    /** Promise 40: "false, refused (5), when it is below 0. (It is 1 at first.)". */
    private static void seeds() {
        for (int seed : new int[] {-1, -2, Integer.MIN_VALUE}) {
            refusedAct("seed " + seed, Bounds.SEED, 0, y -> Bounds.bool(y.seed(seed)));
            RiverRanks x = Due.rivers(CHAIN);
            x.seed(4);
            x.seed(seed);
            x.chance(9);
            RiverRanks y = Due.rivers(CHAIN);
            byHand(y, new Draws(4), 9);
            DUE.due("the seed stays", net(x).equals(net(y)), true);
        }
        for (int seed : new int[] {0, 1, Integer.MAX_VALUE}) {
            BOUNDS.taken("seed " + seed, Bounds.standing(), 1, y -> Bounds.bool(y.seed(seed)));
        }
        RiverRanks x = Due.rivers(CHAIN);
        x.chance(9);
        RiverRanks y = Due.rivers(CHAIN);
        byHand(y, new Draws(1), 9);
        DUE.due("it is 1 at first", net(x).equals(net(y)), true);
    }

    private static int check(int[] bytes, int many) {
        int c = 191;
        for (int k = 0; k < many; k++) {
            c = (3 * c + bytes[k]) % 251;
        }
        return c;
    }

    private static int[] bytesOf(RiverRanks x) {
        int[] bytes = new int[x.image()];
        for (int k = 0; k < bytes.length; k++) {
            bytes[k] = x.octet(k);
        }
        return bytes;
    }

    private static void images() {
        written();
        octetBounds();
        lastByte();
    }

    /** Promise 41: "how many bytes"; from none to 30 reaches; terms III: "(255: not called)". */
    private static void written() {
        RiverRanks none = new RiverRanks();
        BOUNDS.taken("image of no places", none, 3, RiverRanks::image);
        DUE.due("no places", none.octet(0), 0);
        DUE.due("no reaches", none.octet(1), 0);
        DUE.due("the last byte", none.octet(2), 213);
        RiverRanks x = Due.rivers("ab a>b99+99=q");
        for (int r = 1; r <= 30; r++) {
            BOUNDS.taken("image of " + r, x, 3 + 5 * r, RiverRanks::image);
            DUE.due("reaches", x.octet(1), r);
            x.add(0, 1, 1, 0);
        }
        int[] due = {2, 30, 0, 1, 99, 99, 0, 0, 1, 1, 0, 255};
        for (int k = 0; k < due.length; k++) {
            DUE.due("byte " + k, x.octet(k), due[k]);
        }
        for (int k = 0; k < 153; k++) {
            DUE.due("octet of the fullest " + k, x.octet(k) != -1, true);
        }
        BOUNDS.none("octet of the fullest", x::octet, -1, 153, 154, 256, Integer.MIN_VALUE, Integer.MAX_VALUE);
    }

    /** Promise 42: "Byte k of the latest image(); NONE when there is none such". */
    private static void octetBounds() {
        RiverRanks x = Due.rivers("abc a>b4+9 b>c99");
        BOUNDS.none("no image yet", x::octet, -1, 0, 1, 2, 3);
        x.image();
        BOUNDS.from(0, 12, "octet", x::octet);
        x.drop(1);
        BOUNDS.from(0, 12, "octet of the image ahead of the act", x::octet);
        DUE.due("reaches then", x.octet(1), 2);
        x.image();
        BOUNDS.from(0, 7, "octet of a shorter image", x::octet);
        DUE.due("reaches now", x.octet(1), 1);
        BOUNDS.nothingRefused("octet", x);
    }

    /** Terms III: "last a byte: all ahead from 191 on, c = (3 c + it) mod 251". */
    private static void lastByte() {
        boolean[] met = new boolean[251];
        for (int length = 1; length <= 99; length++) {
            for (int gift = 0; gift <= 99; gift++) {
                int due = check(new int[] {2, 1, 0, 1, length, gift, 255}, 7);
                if (!met[due]) {
                    met[due] = true;
                    RiverRanks x = Due.rivers("ab a>b" + length + "+" + gift);
                    DUE.due("bytes", x.image(), 8);
                    DUE.due("the last byte", x.octet(7), due);
                }
            }
        }
        DUE.due("the greatest was met", met[250], true);
        DUE.due("the least was met", met[0], true);
    }

    private static void imagesRead() {
        goesAndStays();
        imagePlaces();
        imageReaches();
        imageEnds();
        imageNumbers();
        imageRivers();
        imageRings();
        imageCheck();
        imageSize();
    }

    private static int[] checked(int... bytes) {
        int[] image = Arrays.copyOf(bytes, bytes.length + 1);
        image[bytes.length] = check(bytes, bytes.length);
        return image;
    }

    /** Promise 43: "false, refused (5), all staying, when it is none"; the tape goes. */
    private static void noImage(String what, int... bytes) {
        RiverRanks x = Bounds.standing();
        Due.tape(x, bytes);
        BOUNDS.refused(what, x, Bounds.SEED, 0, y -> Bounds.bool(y.on()));
        DUE.due(what + ": the tape goes", Bounds.onTape(x), 0);
        DUE.due(what + ": undo", x.undo(), true);
        DUE.due(what + ": the yield ahead", x.reach(1, 3), 4);
    }

    private static RiverRanks anImage(String what, int... bytes) {
        RiverRanks x = Bounds.standing();
        Due.tape(x, bytes);
        BOUNDS.taken(what, x, 1, y -> Bounds.bool(y.on()));
        DUE.due(what + ": the tape goes", Bounds.onTape(x), 0);
        DUE.due(what + ": places", x.has(0), bytes[0]);
        DUE.due(what + ": reaches", x.has(1), bytes[1]);
        DUE.due(what + ": acts", x.has(6), 0);
        DUE.due(what + ": changed", x.changed(0), -1);
        DUE.due(what + ": a name", x.letter(0, 0, 0), 0);
        DUE.due(what + ": rivers", x.has(2), 2);
        return x;
    }

    /** Promise 43: "nothing can be undone, changed() is NONE"; what is not told of stays. */
    private static void goesAndStays() {
        RiverRanks x = anImage("an image", checked(3, 2, 0, 1, 5, 7, 1, 1, 2, 6, 0, 255));
        reachIs("an image", x, 0, 0, 1, 5, 7, 1, 7);
        reachIs("an image", x, 1, 1, 2, 6, 0, -1, 7);
        DUE.due("rows stay", x.has(7), 2);
        DUE.due("of a reach that is none by now", x.fits(), -1);
        DUE.due("the river's name stays", x.letter(1, 1, 0), 25);
        BOUNDS.refused("undo", x, Bounds.UNDO, 0, y -> Bounds.bool(y.undo()));
        for (int p = 0; p < 3; p++) {
            DUE.due("no name", x.letter(0, p, 0), 0);
        }
        // The seed stays, and so does it by one that is refused.
        RiverRanks one = Due.rivers(CHAIN);
        RiverRanks other = Due.rivers(CHAIN);
        one.seed(6);
        other.seed(6);
        Due.tape(one, bytesOf(one));
        DUE.due("on", one.on(), true);
        Due.tape(other, 1, 2, 3);
        DUE.due("on", other.on(), false);
        one.chance(10);
        other.chance(10);
        DUE.due("the seed stays", net(one).equals(net(other)), true);
    }

    /** Promise 43: "PLACES 1 .. 20". */
    private static void imagePlaces() {
        for (int places : new int[] {0, 21, 22, 31, 32, 128, 255}) {
            noImage(places + " places", checked(places, 0));
        }
        for (int places : new int[] {1, 2, 19, 20}) {
            anImage(places + " places", checked(places, 0));
        }
    }

    private static int[] many(int places, int reaches) {
        int[] bytes = new int[2 + 5 * reaches];
        bytes[0] = places;
        bytes[1] = reaches;
        for (int r = 0; r < reaches; r++) {
            bytes[3 + 5 * r] = 1;
            bytes[4 + 5 * r] = 1;
            bytes[6 + 5 * r] = 255;
        }
        return checked(bytes);
    }

    /** Promise 43: "REACHES as acts can make them": 0 to 30. */
    private static void imageReaches() {
        for (int reaches : new int[] {0, 1, 29, 30}) {
            anImage(reaches + " reaches", many(2, reaches));
        }
        for (int reaches : new int[] {31, 32, 255}) {
            noImage(reaches + " reaches", many(2, reaches));
        }
        noImage("a reach of one place", checked(1, 1, 0, 1, 1, 0, 255));
    }

    /** HEAD and FOOT are places, unlike. */
    private static void imageEnds() {
        anImage("the last head", checked(3, 1, 2, 0, 1, 0, 255));
        anImage("the last foot", checked(3, 1, 0, 2, 1, 0, 255));
        for (int p : new int[] {3, 20, 31, 32, 255}) {
            noImage("head " + p, checked(3, 1, p, 0, 1, 0, 255));
            noImage("foot " + p, checked(3, 1, 0, p, 1, 0, 255));
        }
        noImage("itself", checked(3, 1, 2, 2, 1, 0, 255));
        noImage("itself", checked(3, 1, 0, 0, 1, 0, 255));
        noImage("the second one's head", checked(3, 2, 0, 1, 1, 0, 255, 3, 1, 1, 0, 255));
    }

    /** LENGTH 1 .. 99, YIELD 0 .. 99. */
    private static void imageNumbers() {
        for (int n = 0; n < 256; n++) {
            if (n >= 1 && n <= 99) {
                DUE.due("length", anImage("length " + n, checked(2, 1, 0, 1, n, 0, 255)).reach(0, 2), n);
            } else {
                noImage("length " + n, checked(2, 1, 0, 1, n, 0, 255));
            }
            if (n <= 99) {
                DUE.due("yield", anImage("yield " + n, checked(2, 1, 0, 1, 1, n, 255)).reach(0, 3), n);
            } else {
                noImage("yield " + n, checked(2, 1, 0, 1, 1, n, 255));
            }
        }
    }

    /** Promise 43: "RIVERS that there are"; 255: not called. */
    private static void imageRivers() {
        for (int w = 0; w < 256; w++) {
            if (w < 2 || w == 255) {
                DUE.due("river", anImage("river " + w, checked(2, 1, 0, 1, 1, 0, w)).reach(0, 4), w < 2 ? w : -1);
            } else {
                noImage("river " + w, checked(2, 1, 0, 1, 1, 0, w));
            }
        }
        RiverRanks x = new RiverRanks();
        Due.tape(x, checked(2, 1, 0, 1, 1, 0, 0));
        BOUNDS.refused("without rivers", x, Bounds.SEED, 0, y -> Bounds.bool(y.on()));
        Due.tape(x, checked(2, 1, 0, 1, 1, 0, 255));
        BOUNDS.taken("without rivers", x, 1, y -> Bounds.bool(y.on()));
    }

    /** No ring, in whatever order its reaches are told. */
    private static void imageRings() {
        noImage("two", checked(2, 2, 0, 1, 1, 0, 255, 1, 0, 1, 0, 255));
        noImage("three", checked(3, 3, 0, 1, 1, 0, 255, 2, 0, 1, 0, 255, 1, 2, 1, 0, 255));
        anImage("none", checked(3, 3, 0, 1, 1, 0, 255, 0, 2, 1, 0, 255, 1, 2, 1, 0, 255));
        int[] ring = new int[2 + 5 * 20];
        ring[0] = 20;
        ring[1] = 20;
        for (int r = 0; r < 20; r++) {
            ring[2 + 5 * r] = 19 - r;
            ring[3 + 5 * r] = (38 - r) % 20;
            ring[4 + 5 * r] = 1;
            ring[6 + 5 * r] = 255;
        }
        noImage("twenty", checked(ring));
        ring[1] = 19;
        anImage("nineteen of them", checked(Arrays.copyOf(ring, 97)));
    }

    /** The last byte is below 251: one that is like it mod 251 is another. */
    private static void imageCheck() {
        boolean tried = false;
        for (int length = 1; length <= 99; length++) {
            int[] image = checked(2, 1, 0, 1, length, 0, 255);
            if (image[7] < 5) {
                tried = true;
                anImage("the last byte " + image[7], image);
                image[7] += 251;
                noImage("the last byte " + image[7], image);
            }
        }
        DUE.due("tried", tried, true);
        int[] image = checked(2, 1, 0, 1, 9, 0, 255);
        for (int by = 1; by < 256; by++) {
            int[] other = image.clone();
            other[7] = (image[7] + by) % 256;
            noImage("the last byte " + other[7], other);
        }
        // Each byte ahead of it counts.
        int[] two = checked(4, 2, 0, 2, 9, 9, 0, 1, 3, 9, 9, 0);
        for (int k : new int[] {0, 2, 3, 4, 5, 6, 7, 8, 9, 10, 11}) {
            int[] other = two.clone();
            other[k] ^= 1;
            noImage("byte " + k, other);
            other[12] = check(other, 12);
            anImage("byte " + k + " and the last one", other);
        }
    }

    /** As many bytes as it tells of, none less, none more. */
    private static void imageSize() {
        noImage("no byte");
        noImage("the last byte alone", checked());
        noImage("two bytes", checked(1));
        int[] image = checked(2, 1, 0, 1, 9, 0, 255);
        for (int n = 0; n < image.length; n++) {
            noImage(n + " bytes", Arrays.copyOf(image, n));
        }
        noImage("a byte more", checked(2, 1, 0, 1, 9, 0, 255, 0));
        noImage("a byte more behind", Arrays.copyOf(image, 9));
        noImage("a byte less", checked(2, 1, 0, 1, 9, 0));
        noImage("a reach less", checked(2, 2, 0, 1, 9, 0, 255));
        noImage("a reach more", checked(2, 0, 0, 1, 9, 0, 255));
        noImage("all 1600", new int[1600]);
    }

    private static void statuses() {
        statusBounds();
        eachKind();
        countsStay();
    }

    /** Promise 44: what 0 .. 5, "NONE for others". */
    private static void statusBounds() {
        RiverRanks x = new RiverRanks();
        BOUNDS.from(0, 5, "status", x::status);
        BOUNDS.nothingRefused("a new one", x);
    }

    /** Promise 44: each call counts for its own kind, as often as it was refused. */
    private static void eachKind() {
        RiverRanks x = new RiverRanks();
        for (int i = 1; i <= 3; i++) {
            x.end(-1);
            x.net();
            x.see();
            x.add(0, 1, 1, 1);
            x.drop(0);
            x.cut(0, 1);
            x.turn(0);
            x.gives(0, 1);
            x.call(0, 0);
            x.chance(1);
            x.undo();
            x.seed(-1);
            x.on();
            int[] due = {i, 2 * i, 3 * i, 4 * i, i, 2 * i};
            for (int what = 0; what < due.length; what++) {
                DUE.due("status " + what, x.status(what), due[what]);
            }
        }
        for (int i = 0; i < 80; i++) {
            x.feed(0, 0, 0, 0, 0);
        }
        DUE.due("status", x.status(0), 3);
        x.feed(0, 0, 0, 0, 0);
        DUE.due("a feed too many", x.status(0), 4);
    }

    /** What was refused is counted on by a new net, an image and an undo. */
    private static void countsStay() {
        RiverRanks x = Due.rivers(CHAIN);
        x.drop(7);
        x.seed(-1);
        Due.net(x, Due.text(CHAIN));
        Due.tape(x, bytesOf(x));
        x.on();
        x.gives(0, 9);
        x.undo();
        int[] due = {0, 0, 1, 0, 0, 1};
        for (int what = 0; what < due.length; what++) {
            DUE.due("status " + what, x.status(what), due[what]);
        }
    }
}
