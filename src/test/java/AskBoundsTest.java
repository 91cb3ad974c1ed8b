/** The bounds that the document names of what can be asked: promises 1, 6 and 8 to 31. */
final class AskBoundsTest {
    private static final Due DUE = new Due();
    private static final Bounds BOUNDS = new Bounds(DUE);
    private static final String PARTING = "abcdefg a>c5+10=x b>c3+4=y c>d7+1=x c>e2 d>f1 e>f1";

    public static void main(String[] args) {
        newObject();
        counts();
        reaches();
        places();
        ranks();
        stems();
        upAndDown();
        together();
        streamsAndRivers();
        turning();
        losses();
        waves();
        changed();
        seen();
        DUE.close("AskBoundsTest");
    }

    /** As many places and reaches as there can be: a chain from place 19 down to 0, and eleven beside it. */
    private static RiverRanks full() {
        StringBuilder told = new StringBuilder();
        for (char c = 'a'; c < 'u'; c++) {
            told.append(c);
        }
        for (char c = 't'; c > 'a'; c--) {
            told.append(' ').append(c).append('>').append((char) (c - 1)).append("99+99=r");
        }
        for (char c = 't'; c > 'i'; c--) {
            told.append(' ').append(c).append('>').append((char) (c - 1)).append("1");
        }
        return Due.rivers(told.toString());
    }

    /** Promise 1: "No places." */
    private static void newObject() {
        RiverRanks x = new RiverRanks();
        BOUNDS.from(0, 9, "has of a new one", x::has);
        for (int what = 0; what <= 9; what++) {
            DUE.due("has " + what + " of a new one", x.has(what), 0);
        }
        for (int n = -1; n <= 0; n++) {
            int at = n;
            BOUNDS.none("reach", what -> x.reach(at, what), 0, 6);
            BOUNDS.none("place", what -> x.place(at, what), 0, 6);
            BOUNDS.none("rank", kind -> x.rank(at, kind, 0), 0, 3);
            BOUNDS.none("goes", what -> x.goes(at, 0, what), 0, 1);
            BOUNDS.none("stem", k -> x.stem(at, 0, k), -1, 0);
            BOUNDS.none("beyond", what -> x.beyond(at, what), 0, 1);
            BOUNDS.none("far", what -> x.far(at, at, what), 0, 1);
            BOUNDS.none("river", what -> x.river(at, what), 0, 3);
            BOUNDS.none("would", what -> x.would(at, what), 0, 2);
            BOUNDS.none("wave", what -> x.wave(at, what), 0, 3);
        }
        BOUNDS.none("springs", x::springs, -1, 0);
        BOUNDS.none("ways", p -> x.ways(p, p), -1, 0);
        BOUNDS.none("waters", p -> x.waters(p, p), -1, 0);
        BOUNDS.none("braid", x::braid, -1, 0);
        BOUNDS.none("canTurn", x::canTurn, -1, 0);
        BOUNDS.none("loss", x::loss, -1, 0);
        BOUNDS.none("fewest", x::fewest, -1, 0);
        BOUNDS.none("changed", x::changed, 0, 3);
        BOUNDS.none("tells", x::tells, 0, 1);
        BOUNDS.none("octet", x::octet, -1, 0);
        DUE.due("fits", x.fits(), -1);
        BOUNDS.nothingRefused("a new one", x);
    }

    private static void counts() {
        hasBounds();
        greatestRank();
        whatPartsOrNot();
        flowAtMost();
    }

    /** Promise 6: what 0 .. 9, "NONE for others". */
    private static void hasBounds() {
        RiverRanks x = Due.rivers(PARTING);
        BOUNDS.from(0, 9, "has", x::has);
        int[] due = {7, 6, 2, 2, 1, 1, 0, 0, 15, 2};
        for (int what = 0; what <= 9; what++) {
            DUE.due("has " + what, x.has(what), due[what]);
        }
        BOUNDS.nothingRefused("has", x);
    }

    /** Promise 6: "9 the greatest rank MET (0: none)". */
    private static void greatestRank() {
        RiverRanks x = Due.rivers("abc");
        DUE.due("without reaches", x.has(9), 0);
        DUE.due("without reaches", x.has(8), 0);
        x.add(0, 2, 1, 0);
        DUE.due("with one", x.has(9), 1);
        x.drop(0);
        DUE.due("none any more", x.has(9), 0);
    }

    /** Terms II: "A PLACE PARTS, if two REACHES run from it"; SOURCES and MOUTHS need a reach. */
    private static void whatPartsOrNot() {
        RiverRanks x = Due.rivers("abc");
        int[] sources = {0, 1, 1, 1};
        int[] parts = {0, 0, 1, 1};
        for (int many = 0; many <= 3; many++) {
            DUE.due("sources of " + many, x.has(3), sources[many]);
            DUE.due("mouths of " + many, x.has(4), sources[many]);
            DUE.due("parting of " + many, x.has(5), parts[many]);
            x.add(0, 1, 1, 1);
        }
    }

    /** The most that can flow: 30 reaches of 99 each. */
    private static void flowAtMost() {
        RiverRanks x = Due.rivers("ab");
        for (int r = 0; r < 30; r++) {
            x.add(0, 1, 99, 99);
        }
        DUE.due("all flow", x.has(8), 2970);
        DUE.due("all that comes", x.place(1, 4), 2970);
        RiverRanks y = full();
        DUE.due("all flow of a chain", y.has(8), 19 * 99);
    }

    private static void reaches() {
        reachBounds();
        springsBounds();
        shares();
    }

    /** Promise 8: what 0 .. 6, "RIVER (NONE: not called)", "NONE when there is none such, or for others". */
    private static void reachBounds() {
        RiverRanks x = Due.rivers(PARTING);
        BOUNDS.from(0, 6, "what of a reach", what -> x.reach(2, what));
        DUE.due("not called", x.reach(3, 4), -1);
        for (int what = 0; what <= 6; what++) {
            int asked = what;
            if (what != 4) {
                BOUNDS.from(0, 5, "reach", r -> x.reach(r, asked));
            }
        }
        BOUNDS.none("river of a reach", r -> x.reach(r, 4), -1, 3, 4, 5, 6);
        RiverRanks y = full();
        BOUNDS.from(0, 29, "reach of thirty", r -> y.reach(r, 0));
        DUE.due("the first", y.reach(0, 0), 19);
        DUE.due("the last", y.reach(29, 0), 9);
        BOUNDS.nothingRefused("reach", x);
    }

    /** Promise 15: "SPRINGS of a REACH, as bits of PLACES; NONE when there is none such". */
    private static void springsBounds() {
        RiverRanks x = Due.rivers(PARTING);
        BOUNDS.from(0, 5, "springs", x::springs);
        DUE.due("its head", x.springs(0), Due.bits(0));
        DUE.due("up of its head", x.springs(5), Due.bits(0, 1));
        RiverRanks y = full();
        BOUNDS.from(0, 29, "springs of thirty", y::springs);
        DUE.due("place 19", y.springs(18), 1 << 19);
        BOUNDS.nothingRefused("springs", x);
    }

    /** Terms II: "cut; of what is left one more each for the first ones, by numbers". */
    private static void shares() {
        for (int comes = 0; comes <= 9; comes++) {
            // The first of the three has the last number of all but one.
            RiverRanks x = Due.rivers("abcde b>e1 a>b1 b>c1 b>d1");
            x.gives(1, comes);
            int[] out = {0, 2, 3};
            for (int i = 0; i < 3; i++) {
                DUE.due(comes + " by three, the share of " + i, x.reach(out[i], 5), comes / 3 + (i < comes % 3 ? 1 : 0));
            }
        }
        RiverRanks x = Due.rivers("abc a>b1+99 b>c1+99");
        DUE.due("by one", x.reach(1, 5), 198);
        x = Due.rivers("abc a>b1+1 b>c1 b>c1+99");
        DUE.due("one of two", x.reach(1, 5), 1);
        DUE.due("none of one", x.reach(2, 5), 99);
        DUE.due("of a source", x.reach(0, 5), 1);
    }

    private static void places() {
        placeBounds();
        noneRuns();
    }

    /** Promise 9: what 0 .. 6, "NONE when there is none such, or for others". */
    private static void placeBounds() {
        RiverRanks x = Due.rivers(PARTING);
        BOUNDS.from(0, 6, "what of a place", what -> x.place(2, what));
        for (int what = 0; what <= 6; what++) {
            int asked = what;
            BOUNDS.from(0, 6, "place", p -> x.place(p, asked));
        }
        RiverRanks y = full();
        BOUNDS.from(0, 19, "place of twenty", p -> y.place(p, 5));
        DUE.due("the most length", y.place(0, 5), 19 * 99);
        DUE.due("the most length", y.place(19, 6), 19 * 99);
        DUE.due("the last is a source", y.place(19, 2), 1);
        DUE.due("the last is no mouth", y.place(19, 3), 0);
        BOUNDS.nothingRefused("place", x);
    }

    /** Promise 9: "most LENGTH from a SOURCE to it, 6 to a MOUTH (0: none runs)". */
    private static void noneRuns() {
        RiverRanks x = Due.rivers(PARTING);
        DUE.due("to a source", x.place(0, 5), 0);
        DUE.due("from a source", x.place(0, 6), 13);
        DUE.due("from a mouth", x.place(5, 6), 0);
        DUE.due("to a mouth", x.place(5, 5), 13);
        for (int what = 0; what <= 6; what++) {
            DUE.due("none runs, " + what, x.place(6, what), 0);
        }
    }

    /** The first place and the first reach count as the others do, wherever they lie. */
    private static void theFirstOnes() {
        // b > a > c: place 0 lies in the middle, its reach to there is the first.
        RiverRanks x = Due.rivers("abc b>a3+5 a>c4");
        DUE.due("flow", x.reach(1, 5), 5);
        DUE.due("length", x.place(2, 5), 7);
        DUE.due("goes on", x.goes(0, 0, 0), 1);
        DUE.due("stems", x.stems(0, 0), 1);
        // Where the others go, what was told of them does too.
        x.drop(0);
        DUE.due("flow", x.reach(0, 5), 0);
        DUE.due("from a source", x.place(2, 5), 4);
        DUE.due("to a mouth", x.place(1, 6), 0);
        DUE.due("up", x.beyond(2, 0), Due.bits(0));
        // The first reach alone has the greatest rank.
        x = Due.rivers("abcdef c>e1 a>c1 b>c1 d>e1 e>f1");
        DUE.due("met", x.rank(4, 0, 0), 2);
        // It is called as the main out; the other has more flow.
        x = Due.rivers("abcd a>c1+1=x b>c1+9 c>d1=x");
        DUE.due("by names", x.goes(0, 2, 0), 2);
        DUE.due("by flow", x.goes(1, 0, 0), 2);
        // It has the least BRANCH of those that run from where another stem ends.
        x = Due.rivers("abcdef c>d1+9 a>c1+9 c>e1 f>e1+99 e>d1 b>c1");
        DUE.due("branch", x.rank(5, 2, 0), 2);
    }

    private static void ranks() {
        rankBounds();
        anyWay();
        likeOnesThatMeet();
        theFirstOnes();
    }

    /** Promise 10: kinds 0 .. 3, "of these 2, 3 by a WAY (0 .. 2 ..)", "NONE when there are none such". */
    private static void rankBounds() {
        RiverRanks x = Due.rivers(PARTING);
        for (int way = 0; way < 3; way++) {
            int by = way;
            BOUNDS.from(0, 3, "kind by way " + way, kind -> x.rank(2, kind, by));
            BOUNDS.from(0, 5, "branch of a reach by way " + way, r -> x.rank(r, 2, by));
            BOUNDS.from(0, 5, "crown of a reach by way " + way, r -> x.rank(r, 3, by));
        }
        BOUNDS.from(0, 5, "met of a reach", r -> x.rank(r, 0, 0));
        BOUNDS.from(0, 5, "fed of a reach", r -> x.rank(r, 1, 0));
        BOUNDS.from(0, 2, "way of a branch", way -> x.rank(2, 2, way));
        BOUNDS.from(0, 2, "way of a crown", way -> x.rank(2, 3, way));
        BOUNDS.nothingRefused("rank", x);
    }

    /** Promise 10: "0, 1 by any". */
    private static void anyWay() {
        RiverRanks x = Due.rivers(PARTING);
        for (int way : new int[] {Integer.MIN_VALUE, -2, -1, 0, 1, 2, 3, 4, Integer.MAX_VALUE}) {
            DUE.due("met by " + way, x.rank(2, 0, way), 2);
            DUE.due("fed by " + way, x.rank(2, 1, way), 2);
            DUE.due("met of none by " + way, x.rank(6, 0, way), -1);
            DUE.due("no kind by " + way, x.rank(2, 4, way), -1);
            DUE.due("no kind by " + way, x.rank(2, -1, way), -1);
        }
    }

    /** Terms II: MET "of a HEAD that is a SOURCE 1"; "1 more, if two of that rank have no SPRING in common". */
    private static void likeOnesThatMeet() {
        DUE.due("a source", Due.rivers("ab a>b1").rank(0, 0, 0), 1);
        DUE.due("one alone", Due.rivers("abc a>b1 b>c1").rank(1, 0, 0), 1);
        DUE.due("two", Due.rivers("abcd a>c1 b>c1 c>d1").rank(2, 0, 0), 2);
        DUE.due("two of one spring", Due.rivers("abc a>b1 a>b1 b>c1").rank(2, 0, 0), 1);
        DUE.due("three of two springs", Due.rivers("abcd a>c1 a>c1 b>c1 c>d1").rank(3, 0, 0), 2);
        DUE.due("a 2 and a 1", Due.rivers("abcdef a>c1 b>c1 c>e1 d>e1 e>f1").rank(4, 0, 0), 2);
        // Two of 2 that share one of their springs.
        DUE.due("one in common", Due.rivers("abcdefg a>d1 b>d1 b>e1 c>e1 d>f1 e>f1 f>g1").rank(6, 0, 0), 2);
        DUE.due("none in common", Due.rivers("abcdefgh a>e1 b>e1 c>f1 d>f1 e>g1 f>g1 g>h1").rank(6, 0, 0), 3);
    }

    private static void stems() {
        goesBounds();
        stemBounds();
        stemsBounds();
        withoutReaches();
        likeOnesTheFirst();
    }

    /** Promise 11: "NONE when there is none, there are none such, or for others". */
    private static void goesBounds() {
        RiverRanks x = Due.rivers("abcd a>b1 b>c1 c>d1");
        for (int way = 0; way < 3; way++) {
            int by = way;
            BOUNDS.from(0, 1, "what of goes by way " + way, what -> x.goes(1, by, what));
            BOUNDS.from(0, 1, "goes on in, by way " + way, r -> x.goes(r, by, 0));
            BOUNDS.from(1, 2, "goes on from, by way " + way, r -> x.goes(r, by, 1));
        }
        BOUNDS.from(0, 2, "way of goes", way -> x.goes(1, way, 0));
        BOUNDS.from(0, 2, "way of goes", way -> x.goes(1, way, 1));
        BOUNDS.nothingRefused("goes", x);
    }

    /** Promise 12: "its k-th REACH; k NONE: how many. NONE when there is none such." */
    private static void stemBounds() {
        RiverRanks x = Due.rivers("abcd b>c1 a>b1 c>d1");
        for (int way = 0; way < 3; way++) {
            int by = way;
            BOUNDS.from(-1, 2, "k of a stem by way " + way, k -> x.stem(0, by, k));
            BOUNDS.from(0, 2, "stem of a reach by way " + way, r -> x.stem(r, by, -1));
            BOUNDS.from(0, 2, "stem of a reach by way " + way, r -> x.stem(r, by, 2));
            DUE.due("how many", x.stem(2, way, -1), 3);
            DUE.due("the top", x.stem(2, way, 0), 1);
            DUE.due("the last", x.stem(1, way, 2), 2);
        }
        BOUNDS.from(0, 2, "way of a stem", way -> x.stem(0, way, 0));
        BOUNDS.from(0, 2, "way of a stem", way -> x.stem(0, way, -1));
        RiverRanks y = full();
        BOUNDS.from(-1, 18, "k of the longest stem", k -> y.stem(18, 0, k));
        DUE.due("19 in a row", y.stem(0, 0, -1), 19);
        BOUNDS.from(-1, 0, "k of a stem of one", k -> y.stem(29, 0, k));
        DUE.due("one", y.stem(29, 0, -1), 1);
        BOUNDS.nothingRefused("stem", x);
    }

    /** Promise 13: what 0 .. 3; "when there is no such WAY, or for others". */
    private static void stemsBounds() {
        RiverRanks x = Due.rivers(PARTING);
        for (int what = 0; what <= 3; what++) {
            int asked = what;
            BOUNDS.from(0, 2, "way of stems, " + what, way -> x.stems(way, asked));
        }
        for (int way = 0; way < 3; way++) {
            int by = way;
            BOUNDS.from(0, 3, "what of stems by way " + way, what -> x.stems(by, what));
        }
        BOUNDS.nothingRefused("stems", x);
    }

    /** Promise 13: "NONE without REACHES (0: 0)". */
    private static void withoutReaches() {
        RiverRanks[] without = {new RiverRanks(), Due.rivers("ab"), Due.rivers("ab a>b1")};
        without[2].drop(0);
        for (RiverRanks x : without) {
            for (int way = 0; way < 3; way++) {
                DUE.due("how many", x.stems(way, 0), 0);
                int by = way;
                BOUNDS.none("what without reaches", what -> x.stems(by, what), -1, 1, 2, 3, 4);
            }
            BOUNDS.none("no way without reaches", way -> x.stems(way, 0), -1, 3);
        }
        RiverRanks one = Due.rivers("ab a>b7");
        int[] due = {1, 1, 7, 0};
        for (int what = 0; what <= 3; what++) {
            DUE.due("of one reach, " + what, one.stems(0, what), due[what]);
        }
    }

    /** Terms II: "of like ones the first"; promise 13: "of like ones that of the least top". */
    private static void likeOnesTheFirst() {
        RiverRanks x = Due.rivers("abcde b>c2+5 a>c2+5 c>e1+3 c>d1+3");
        for (int way = 0; way < 3; way++) {
            DUE.due("in", x.goes(2, way, 1), 0);
            DUE.due("out", x.goes(0, way, 0), 2);
            DUE.due("the second in", x.goes(1, way, 0), -1);
            DUE.due("the second out", x.goes(3, way, 1), -1);
        }
        x.gives(1, 6);
        DUE.due("one more flow in", x.goes(1, 0, 0), 2);
        DUE.due("not by length", x.goes(0, 1, 0), 2);
        // 11 come: 6 and 5 of them are the shares.
        x.gives(3, 4);
        DUE.due("like flows out", x.goes(1, 0, 0), 2);
        x.gives(3, 5);
        DUE.due("one more flow out", x.goes(1, 0, 0), 3);
        DUE.due("a stem of length 1", Due.rivers("ab a>b1").stems(0, 3), 0);
        RiverRanks y = Due.rivers("abcdef c>d2 b>c2 e>f4");
        // The stem of b has the top 1, the one of e the top 2; both are 4 long.
        DUE.due("the least top", y.stems(0, 3), 1);
        DUE.due("its reaches", y.stems(0, 1), 2);
        y = Due.rivers("abcdef c>d2 e>f4 b>c2");
        DUE.due("the least top", y.stems(0, 3), 1);
        DUE.due("its reaches", y.stems(0, 1), 1);
        y = Due.rivers("abcdef c>d2 e>f4 b>c3");
        DUE.due("one longer", y.stems(0, 3), 2);
    }

    private static void upAndDown() {
        beyondBounds();
        waysBounds();
        farBounds();
    }

    /** Promise 14: "as bits; NONE when there is none such, or for others"; terms II: "(not itself)". */
    private static void beyondBounds() {
        RiverRanks x = Due.rivers(PARTING);
        BOUNDS.from(0, 1, "what of beyond", what -> x.beyond(2, what));
        BOUNDS.from(0, 6, "up of a place", p -> x.beyond(p, 0));
        BOUNDS.from(0, 6, "down of a place", p -> x.beyond(p, 1));
        DUE.due("not itself", x.beyond(2, 0) & 1 << 2, 0);
        DUE.due("not itself", x.beyond(2, 1) & 1 << 2, 0);
        DUE.due("up of a source", x.beyond(0, 0), 0);
        DUE.due("down of a mouth", x.beyond(5, 1), 0);
        DUE.due("of one alone", x.beyond(6, 0) | x.beyond(6, 1), 0);
        RiverRanks y = full();
        BOUNDS.from(0, 19, "up of twenty", p -> y.beyond(p, 0));
        DUE.due("up of the mouth", y.beyond(0, 0), (1 << 20) - 2);
        DUE.due("down of the source", y.beyond(19, 1), (1 << 19) - 1);
        BOUNDS.nothingRefused("beyond", x);
    }

    /** Promise 16: "(1 to itself ..)", "NONE when there are none such". 59049 are the most that 30 reaches make. */
    private static void waysBounds() {
        RiverRanks x = Due.rivers(PARTING);
        BOUNDS.from(0, 6, "ways from", p -> x.ways(p, 5));
        BOUNDS.from(0, 6, "ways to", p -> x.ways(0, p));
        for (int p = 0; p < 7; p++) {
            DUE.due("to itself", x.ways(p, p), 1);
        }
        BOUNDS.none("to itself", p -> x.ways(p, p), -1, 7);
        DUE.due("two", x.ways(0, 5), 2);
        DUE.due("one", x.ways(0, 2), 1);
        DUE.due("up", x.ways(5, 0), 0);
        DUE.due("to one alone", x.ways(0, 6), 0);
        StringBuilder told = new StringBuilder("abcdefghijk");
        for (char c = 'a'; c < 'k'; c++) {
            told.append((" " + c + ">" + (char) (c + 1) + "9").repeat(3));
        }
        RiverRanks most = Due.rivers(told.toString());
        DUE.due("3 to the 10", most.ways(0, 10), 59049);
        DUE.due("3 to the 9", most.ways(1, 10), 19683);
        BOUNDS.nothingRefused("ways", x);
    }

    /** Promise 17: "NONE when there is none, there are none such, or for others". */
    private static void farBounds() {
        RiverRanks x = Due.rivers(PARTING);
        BOUNDS.from(0, 1, "what of far", what -> x.far(0, 5, what));
        for (int what = 0; what <= 1; what++) {
            int asked = what;
            BOUNDS.from(2, 5, "far to", p -> x.far(2, p, asked));
            DUE.due("to itself", x.far(6, 6, what), 0);
            DUE.due("up", x.far(2, 0, what), -1);
            DUE.due("to one alone", x.far(0, 6, what), -1);
            BOUNDS.none("far to itself", p -> x.far(p, p, asked), -1, 7);
            BOUNDS.none("far from", p -> x.far(p, 5, asked), -1, 7);
            BOUNDS.none("far to", p -> x.far(0, p, asked), -1, 7);
        }
        BOUNDS.none("what to itself", what -> x.far(0, 0, what), -1, 2);
        DUE.due("least", x.far(0, 5, 0), 8);
        DUE.due("greatest", x.far(0, 5, 1), 13);
        RiverRanks y = full();
        DUE.due("the greatest of all", y.far(19, 0, 1), 19 * 99);
        DUE.due("the least", y.far(19, 0, 0), 11 + 8 * 99);
        BOUNDS.nothingRefused("far", x);
    }

    private static void together() {
        watersBounds();
        braidBounds();
    }

    /** Promise 18: "NONE when nowhere, or there are none such"; terms III: "one with itself at itself". */
    private static void watersBounds() {
        RiverRanks x = Due.rivers(PARTING);
        BOUNDS.from(0, 6, "itself", p -> x.waters(p, p));
        BOUNDS.from(0, 5, "with a", p -> x.waters(0, p));
        BOUNDS.from(0, 5, "a with", p -> x.waters(p, 0));
        for (int p = 0; p < 7; p++) {
            DUE.due("with itself", x.waters(p, p), p);
        }
        DUE.due("nowhere", x.waters(0, 6), -1);
        DUE.due("nowhere", x.waters(6, 5), -1);
        DUE.due("one of them, down", x.waters(0, 5), 5);
        DUE.due("one of them, down", x.waters(5, 0), 5);
        DUE.due("below both", x.waters(0, 1), 2);
        // Two where no other is up of: the first; where one is up of the other, that one.
        RiverRanks y = Due.rivers("abcde a>d1 a>c1 b>d1 b>c1 d>e1 c>e1");
        DUE.due("the first", y.waters(0, 1), 2);
        y = Due.rivers("abcd a>d1 b>d1 d>c1 a>c1 b>c1");
        DUE.due("the upper", y.waters(0, 1), 3);
        BOUNDS.nothingRefused("waters", x);
    }

    /** Promise 19: "NONE when it does not PART, there is none, or there is none such". */
    private static void braidBounds() {
        RiverRanks x = Due.rivers("abcde a>b1 b>c1");
        BOUNDS.none("does not part", x::braid, -1, 0, 1, 2, 3, 4, 5);
        x.add(0, 1, 1, 1);
        DUE.due("parts", x.braid(0), 1);
        BOUNDS.none("does not part", x::braid, -1, 1, 2, 3, 4, 5);
        x.add(0, 3, 1, 1);
        DUE.due("two mouths", x.braid(0), -1);
        x.add(3, 2, 1, 1);
        DUE.due("all at the mouth", x.braid(0), 2);
        x.add(3, 4, 1, 1);
        DUE.due("one leaves", x.braid(0), -1);
        x.add(2, 4, 1, 1);
        DUE.due("all at the last", x.braid(0), 4);
        DUE.due("another braid", x.braid(3), 4);
        RiverRanks y = full();
        for (int p = 19; p > 8; p--) {
            DUE.due("the nearest", y.braid(p), p - 1);
        }
        BOUNDS.none("does not part", y::braid, 8, 0, -1, 20, 30);
        BOUNDS.nothingRefused("braid", x);
    }

    private static void streamsAndRivers() {
        streamsBounds();
        riverBounds();
        tornOrNot();
        fullest();
    }

    /** Promise 20: "(1 and on)", "NONE for a rank below 1, or for others". */
    private static void streamsBounds() {
        RiverRanks x = Due.rivers(PARTING);
        BOUNDS.from(0, 2, "what of streams", what -> x.streams(1, what));
        BOUNDS.from(0, 2, "what of streams beyond the greatest", what -> x.streams(3, what));
        for (int what = 0; what <= 2; what++) {
            int asked = what;
            BOUNDS.none("rank below 1", rank -> x.streams(rank, asked), Integer.MIN_VALUE, -1, 0);
            for (int rank : new int[] {3, 4, 30, 64, Integer.MAX_VALUE}) {
                DUE.due("rank that none has", x.streams(rank, what), 0);
            }
        }
        int[][] due = {{2, 2, 8}, {2, 4, 11}};
        for (int rank = 1; rank <= 2; rank++) {
            for (int what = 0; what <= 2; what++) {
                DUE.due("rank " + rank + ", " + what, x.streams(rank, what), due[rank - 1][what]);
            }
        }
        RiverRanks none = Due.rivers("a");
        DUE.due("without reaches", none.streams(1, 0), 0);
        DUE.due("without reaches", none.streams(0, 0), -1);
        DUE.due("full", full().streams(1, 1), 30);
        DUE.due("full", full().streams(1, 0), 1);
        // Those that part and meet again hang together once.
        DUE.due("once", Due.rivers("abcd a>b1 b>c1 b>c1 c>d1").streams(1, 0), 1);
        DUE.due("once", Due.rivers("abcd b>c1 a>b1 b>c1 c>d1").streams(1, 0), 1);
        DUE.due("told from the foot up", Due.rivers("abc b>c1 a>b1").streams(1, 0), 1);
        BOUNDS.nothingRefused("streams", x);
    }

    /** Promise 21: "NONE when there is none such, or for others". */
    private static void riverBounds() {
        RiverRanks x = Due.rivers(PARTING);
        BOUNDS.from(0, 3, "what of a river", what -> x.river(0, what));
        for (int what = 0; what <= 3; what++) {
            int asked = what;
            BOUNDS.from(0, 1, "river", w -> x.river(w, asked));
        }
        RiverRanks none = Due.rivers("ab a>b1");
        BOUNDS.none("no rivers", w -> none.river(w, 0), -1, 0);
        StringBuilder told = new StringBuilder("ab");
        for (char c = 'a'; c < 'k'; c++) {
            told.append(" a>b9=").append(c);
        }
        RiverRanks ten = Due.rivers(told.toString());
        BOUNDS.from(0, 9, "ten rivers", w -> ten.river(w, 3));
        BOUNDS.nothingRefused("river", x);
    }

    /** Promise 21: "whether TORN (0 of none), 3 the first of its REACHES by numbers (NONE: none)". */
    private static void tornOrNot() {
        RiverRanks x = Due.rivers("abcd a>b5=x b>c6=x c>d7=x");
        int[] row = {3, 18, 0, 0};
        int[] gap = {2, 12, 1, 0};
        int[] one = {1, 7, 0, 2};
        int[] none = {0, 0, 0, -1};
        riverIs(x, "a row", row);
        x.call(1, -1);
        riverIs(x, "a gap", gap);
        x.call(0, -1);
        riverIs(x, "one", one);
        x.call(2, -1);
        riverIs(x, "none", none);
        DUE.due("it is still there", x.has(2), 1);
    }

    private static void riverIs(RiverRanks x, String what, int[] due) {
        for (int asked = 0; asked < due.length; asked++) {
            DUE.due(what + ", " + asked, x.river(0, asked), due[asked]);
        }
    }

    /** The fullest net: 20 places, 30 reaches. */
    private static void fullest() {
        RiverRanks x = full();
        int[] due = {20, 30, 1, 1, 1, 11, 0, 0, 19 * 99, 1};
        for (int what = 0; what <= 9; what++) {
            DUE.due("has " + what + " of the fullest", x.has(what), due[what]);
        }
        DUE.due("length of all", x.streams(1, 2), 19 * 99 + 11);
        DUE.due("of the river", x.river(0, 0), 19);
        DUE.due("not torn", x.river(0, 2), 0);
        for (int r = 0; r < 30; r++) {
            // Those beside another one can't be turned; the lowest one turned leaves one mouth.
            boolean can = r >= 11 && r <= 18;
            DUE.due("would, greatest, " + r, x.would(r, 0), can ? 1 : -1);
            DUE.due("would, mouths, " + r, x.would(r, 1), can ? r == 18 ? 1 : 2 : -1);
            DUE.due("would, unlike, " + r, x.would(r, 2), can ? 0 : -1);
        }
        // 19 places fit; the reach from place 11 leaves 9 or 10.
        see(x, 18, 1);
        DUE.due("tells", x.tells(0), 8);
        DUE.due("left", x.tells(1), 10);
        // Place 7 parts to the two mouths then.
        x.turn(11);
        DUE.due("no braid", x.braid(7), -1);
        DUE.due("braid", x.braid(9), 8);
    }

    private static void turning() {
        canTurnBounds();
        wouldBounds();
    }

    /** Promise 22: "1, 0; NONE when there is none such". */
    private static void canTurnBounds() {
        RiverRanks x = Due.rivers("abc a>b1 b>c1 a>c1");
        BOUNDS.from(0, 2, "canTurn", x::canTurn);
        DUE.due("it can", x.canTurn(0), 1);
        DUE.due("it can't", x.canTurn(2), 0);
        RiverRanks y = full();
        BOUNDS.from(0, 29, "canTurn of thirty", y::canTurn);
        DUE.due("alone", y.canTurn(18), 1);
        DUE.due("beside another", y.canTurn(0), 0);
        BOUNDS.nothingRefused("canTurn", x);
    }

    /** Promise 23: "NONE when it can't be, there is none such, or for others"; nothing is turned by it. */
    private static void wouldBounds() {
        RiverRanks x = Due.rivers("abcd a>b1 b>c1 a>c1 d>c1");
        String ahead = Bounds.whole(x);
        BOUNDS.from(0, 2, "what of would", what -> x.would(0, what));
        for (int what = 0; what <= 2; what++) {
            int asked = what;
            DUE.due("it can't be", x.would(2, what), -1);
            BOUNDS.none("would", r -> x.would(r, asked), -1, 4, 30);
        }
        BOUNDS.none("what of one that can't be", what -> x.would(2, what), -1, 3);
        DUE.due("greatest", x.would(3, 0), 1);
        DUE.due("mouths", x.would(3, 1), 1);
        DUE.due("unlike", x.would(3, 2), 0);
        RiverRanks y = Due.rivers("abcd c>d1 a>c1 b>c1");
        DUE.due("the first one unlike", y.would(1, 2), 1);
        DUE.due("all stays", Bounds.whole(x).equals(ahead), true);
        BOUNDS.nothingRefused("would", x);
    }

    private static void losses() {
        lossBounds();
        starvesBounds();
        fewestBounds();
    }

    /** Promise 24: "LOSS of a REACH; NONE when there is none such"; 0 where all goes another way. */
    private static void lossBounds() {
        RiverRanks x = Due.rivers(PARTING);
        BOUNDS.from(0, 5, "loss", x::loss);
        int[] due = {10, 4, 1, 0, 8, 7};
        for (int r = 0; r < 6; r++) {
            DUE.due("loss " + r, x.loss(r), due[r]);
        }
        RiverRanks y = full();
        BOUNDS.from(0, 29, "loss of thirty", y::loss);
        DUE.due("the last one loses all", y.loss(18), 19 * 99);
        BOUNDS.nothingRefused("loss", x);
    }

    /** Promise 25: "of like ones the first", "NONE without REACHES, or for others". */
    private static void starvesBounds() {
        RiverRanks x = Due.rivers(PARTING);
        BOUNDS.from(0, 1, "what of starves", x::starves);
        DUE.due("the reach", x.starves(0), 0);
        DUE.due("the loss", x.starves(1), 10);
        RiverRanks like = Due.rivers("abcd c>d1 a>b1+3 a>b1+3");
        DUE.due("the first of like ones", like.starves(0), 1);
        DUE.due("their loss", like.starves(1), 3);
        RiverRanks dry = Due.rivers("abc a>b1 b>c1");
        DUE.due("the first of none", dry.starves(0), 0);
        DUE.due("no loss", dry.starves(1), 0);
        RiverRanks none = Due.rivers("abc");
        BOUNDS.none("without reaches", none::starves, -1, 0, 1, 2);
        BOUNDS.nothingRefused("starves", x);
    }

    /** Promise 26: "(0: by none it is); NONE of a SOURCE, or when there is none such". */
    private static void fewestBounds() {
        RiverRanks x = Due.rivers(PARTING);
        BOUNDS.from(2, 6, "fewest", p -> x.fewest(p));
        BOUNDS.none("of a source", x::fewest, 0, 1);
        DUE.due("by none it is", x.fewest(6), 0);
        DUE.due("by two", x.fewest(2), 2);
        DUE.due("by one", x.fewest(3), 1);
        DUE.due("by two", x.fewest(5), 2);
        RiverRanks y = Due.rivers("abc");
        for (int many = 0; many <= 30; many++) {
            DUE.due("by " + many, y.fewest(1), many);
            DUE.due("of " + (many == 0 ? "none" : "a source"), y.fewest(0), many == 0 ? 0 : -1);
            y.add(0, 1, 1, 1);
        }
        // The way found first is in the way of two others: one of its reaches is given back.
        RiverRanks back = Due.rivers("abcdef a>b1 b>e1 e>f1 a>c1 c>e1 b>d1 d>f1");
        DUE.due("one given back", back.fewest(5), 2);
        // A reach that was given back is free again for the next way.
        RiverRanks again = Due.rivers("abcdef c>f1 a>c1 a>f1 c>e1 e>f1 d>e1 b>e1 a>e1 c>f1");
        DUE.due("free again", again.fewest(5), 3);
        RiverRanks z = full();
        BOUNDS.from(0, 18, "fewest of twenty", z::fewest);
        DUE.due("by two", z.fewest(18), 2);
        DUE.due("by one", z.fewest(0), 1);
        BOUNDS.nothingRefused("fewest", x);
    }

    private static void waves() {
        waveBounds();
        ownWave();
        noWave();
        firstSuchHour();
    }

    /** Promise 27: what 0 .. 3, "there is none such, or for others". */
    private static void waveBounds() {
        RiverRanks x = Due.rivers(PARTING);
        BOUNDS.from(0, 3, "what of a wave", what -> x.wave(2, what));
        for (int what = 0; what <= 3; what++) {
            int asked = what;
            BOUNDS.none("wave", p -> x.wave(p, asked), -1, 7, 20);
        }
        BOUNDS.from(0, 6, "how many waves", p -> x.wave(p, 3));
        RiverRanks y = full();
        BOUNDS.from(0, 19, "wave of twenty", p -> y.wave(p, 1));
        DUE.due("the last hour", y.wave(0, 2), 19 * 99);
        BOUNDS.nothingRefused("wave", x);
    }

    /** Promise 27: "(at a SOURCE its own at 0)". */
    private static void ownWave() {
        RiverRanks x = Due.rivers(PARTING);
        int[] due = {1, 0, 0, 1};
        for (int what = 0; what <= 3; what++) {
            DUE.due("at a source, " + what, x.wave(1, what), due[what]);
        }
    }

    /** Promise 27: "NONE when none comes (3: 0)". */
    private static void noWave() {
        RiverRanks x = Due.rivers(PARTING);
        int[] due = {-1, -1, -1, 0};
        for (int what = 0; what <= 3; what++) {
            DUE.due("not the main out, " + what, x.wave(4, what), due[what]);
            DUE.due("one alone, " + what, x.wave(6, what), due[what]);
        }
        DUE.due("for others", x.wave(4, 4), -1);
        DUE.due("for others", x.wave(4, -1), -1);
    }

    /** Promise 27: "the most that come there at one hour (what 0), the first such hour (1)". */
    private static void firstSuchHour() {
        RiverRanks x = Due.rivers("abcdef a>f9 b>f4 c>f7 d>f4 e>f9");
        DUE.due("most", x.wave(5, 0), 2);
        DUE.due("the first such hour", x.wave(5, 1), 4);
        DUE.due("the last hour", x.wave(5, 2), 9);
        DUE.due("how many", x.wave(5, 3), 5);
        x.drop(1);
        DUE.due("the only such hour", x.wave(5, 1), 9);
        x.drop(0);
        DUE.due("one each", x.wave(5, 0), 1);
        DUE.due("the first of all", x.wave(5, 1), 4);
    }

    private static void changed() {
        changedBounds();
        behindWhat();
        thoseAside();
    }

    /** Promise 28: kinds 0 .. 3, "NONE ahead of any .. or for others". */
    private static void changedBounds() {
        RiverRanks x = Due.rivers(PARTING);
        BOUNDS.none("ahead of any", x::changed, -1, 0, 1, 2, 3, 4);
        x.gives(0, 11);
        BOUNDS.from(0, 3, "changed", x::changed);
        for (int kind = 0; kind < 4; kind++) {
            DUE.due("by a yield, kind " + kind, x.changed(kind), 0);
        }
        BOUNDS.nothingRefused("changed", x);
    }

    /** Promise 28: "the latest ACT that was not refused or undone"; NONE "behind undo(), net()". */
    private static void behindWhat() {
        RiverRanks x = Due.rivers("abcd a>c1+5 b>c1+1 c>d1");
        x.add(0, 1, 1, 0);
        DUE.due("behind an act", x.changed(0), 1);
        x.add(3, 0, 1, 0);
        x.drop(4);
        x.cut(0, 1);
        x.turn(4);
        x.gives(0, 5);
        x.call(0, 0);
        x.chance(0);
        x.seed(-1);
        x.see();
        Due.net(x, "places");
        x.on();
        DUE.due("behind refused ones", x.changed(0), 1);
        x.seed(5);
        x.image();
        DUE.due("behind what is no act", x.changed(0), 1);
        x.gives(0, 6);
        DUE.due("behind the next act", x.changed(0), 0);
        x.undo();
        BOUNDS.none("behind undo", x::changed, 0, 1, 2, 3);
        x.drop(0);
        BOUNDS.from(0, 3, "behind an act again", x::changed);
        Due.net(x, "places a;");
        BOUNDS.none("behind net", x::changed, 0, 1, 2, 3);
    }

    /** Promise 28: "(those that were not there, or are not, aside)". */
    private static void thoseAside() {
        RiverRanks x = Due.rivers("abcd a>c1+5 b>c1+1 c>d1");
        // The last one, of MET 2, goes; no other had one of that number.
        x.drop(2);
        DUE.due("one that is not", x.changed(0), 0);
        x.add(2, 3, 1, 0);
        DUE.due("one that was not there", x.changed(0), 0);
        // The first goes: 1 1 2 are 1 1 behind it, and both are the first two numbers.
        x.drop(0);
        DUE.due("by numbers", x.changed(0), 0);
        x = Due.rivers("abcd c>d1 a>c1+5 b>c1+1");
        x.drop(0);
        DUE.due("by numbers", x.changed(0), 1);
        DUE.due("by numbers", x.changed(1), 1);
    }

    private static int see(RiverRanks x, int... bytes) {
        Due.tape(x, bytes);
        return x.see();
    }

    private static void seen() {
        oneToTwelveRows();
        rowsThatAreNone();
        fitsBounds();
        tellsBounds();
    }

    /** Promise 29: "1 to 12 rows of two bytes". */
    private static void oneToTwelveRows() {
        for (int rows = 0; rows <= 14; rows++) {
            RiverRanks x = Due.rivers("abc a>b1 b>c1");
            see(x, 1, 1, 0, 0);
            Due.tape(x, new int[2 * rows]);
            if (rows >= 1 && rows <= 12) {
                BOUNDS.taken(rows + " rows", x, rows, RiverRanks::see);
                DUE.due(rows + " rows", x.has(7), rows);
                DUE.due(rows + " rows fit", x.fits(), Due.bits(1, 2));
            } else {
                BOUNDS.refused(rows + " rows", x, Bounds.TOLD, -1, RiverRanks::see);
                DUE.due("the rows ahead stay", x.has(7), 2);
                DUE.due("the rows ahead fit", x.fits(), Due.bits(1));
            }
            DUE.due("the tape goes", Bounds.onTape(x), 0);
        }
        for (int bytes : new int[] {1, 3, 23, 25}) {
            RiverRanks x = Due.rivers("abc a>b1 b>c1");
            Due.tape(x, new int[bytes]);
            BOUNDS.refused(bytes + " bytes", x, Bounds.TOLD, -1, RiverRanks::see);
            DUE.due("the tape goes", Bounds.onTape(x), 0);
        }
    }

    /** Promise 29: "(a REACH; 1 or 0)", "NONE, refused (1), all staying, when it is none such". */
    private static void rowsThatAreNone() {
        for (int reach = 0; reach < 256; reach++) {
            RiverRanks x = Due.rivers("abc a>b1 b>c1");
            Due.tape(x, 0, 1, reach, 1);
            if (reach < 2) {
                BOUNDS.taken("reach " + reach, x, 2, RiverRanks::see);
            } else {
                BOUNDS.refused("reach " + reach, x, Bounds.TOLD, -1, RiverRanks::see);
            }
            Due.tape(x, reach, 1, 0, 1);
            DUE.due("reach " + reach + " first", x.see(), reach < 2 ? 2 : -1);
        }
        for (int told = 0; told < 256; told++) {
            RiverRanks x = Due.rivers("abc a>b1 b>c1");
            Due.tape(x, 0, 1, 1, told);
            if (told < 2) {
                BOUNDS.taken("told " + told, x, 2, RiverRanks::see);
            } else {
                BOUNDS.refused("told " + told, x, Bounds.TOLD, -1, RiverRanks::see);
            }
        }
        RiverRanks none = Due.rivers("a");
        Due.tape(none, 0, 1);
        BOUNDS.refused("without reaches", none, Bounds.TOLD, -1, RiverRanks::see);
        RiverRanks y = full();
        Due.tape(y, 29, 1);
        BOUNDS.taken("the 30th", y, 1, RiverRanks::see);
        Due.tape(y, 30, 1);
        DUE.due("a 31st", y.see(), -1);
    }

    /** Promise 30: "NONE when nothing is SEEN, or of a REACH that is none by now"; 0 where none fits. */
    private static void fitsBounds() {
        RiverRanks x = Due.rivers("abcd a>b1 b>c1 c>d1");
        DUE.due("nothing seen", x.fits(), -1);
        see(x, 2, 1, 0, 0);
        DUE.due("fits", x.fits(), Due.bits(1, 2));
        x.drop(0);
        DUE.due("none by now", x.fits(), -1);
        DUE.due("rows stay", x.has(7), 2);
        x.undo();
        DUE.due("there again", x.fits(), Due.bits(1, 2));
        x.drop(1);
        x.add(0, 3, 1, 1);
        // Rows tell of numbers: 2 is the reach from a now.
        DUE.due("another one of that number", x.fits(), 0);
        see(x, 0, 1, 2, 1);
        DUE.due("one at both heads", x.fits(), Due.bits(0));
        see(x, 0, 1, 1, 1);
        DUE.due("none fits", x.fits(), 0);
        RiverRanks y = full();
        see(y, 0, 1);
        DUE.due("place 19", y.fits(), 1 << 19);
        see(y, 0, 0);
        DUE.due("all but place 19", y.fits(), (1 << 19) - 1);
        see(y, 18, 1);
        DUE.due("all but place 0", y.fits(), (1 << 20) - 2);
    }

    /** Promise 31: what 0, 1, "NONE without FITS, or for others"; "of like ones the first". */
    private static void tellsBounds() {
        RiverRanks x = Due.rivers("abcd a>b1 b>c1 c>d1");
        BOUNDS.none("nothing seen", x::tells, -1, 0, 1, 2);
        see(x, 2, 1);
        BOUNDS.from(0, 1, "what of tells", x::tells);
        DUE.due("the reach", x.tells(0), 0);
        DUE.due("left", x.tells(1), 2);
        see(x, 0, 1, 2, 0);
        DUE.due("none fits", x.fits(), 0);
        BOUNDS.none("none fits", x::tells, -1, 0, 1, 2);
        see(x, 2, 1);
        x.drop(0);
        BOUNDS.none("none by now", x::tells, -1, 0, 1, 2);
        x.undo();
        see(x, 0, 1);
        DUE.due("one fits: the first reach", x.tells(0), 0);
        DUE.due("one fits: one left", x.tells(1), 1);
        BOUNDS.nothingRefused("tells", x);
    }
}
