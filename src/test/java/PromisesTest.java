/**
 * The document's promises from the first to the last: each one's words, an ordinary answer, the edges
 * that it names, and wrong arguments.
 */
final class PromisesTest {
    private static final Due DUE = new Due();

    /** Sources a, b; mouths d, e; 14 come to c, of which 7 go on in each of two; c to d has 8. */
    private static final String TALE = "abcde a>c5+10=x b>c3+4=y c>d7+1=x c>e2";

    public static void main(String[] args) {
        promises1to9();
        promises10to21();
        promises22to31();
        promises32to38();
        promises39to44();
        DUE.close("PromisesTest");
    }

    private static RiverRanks tale() {
        return Due.rivers(TALE);
    }

    private static void due(String what, int got, int want) {
        DUE.due(what, got, want);
    }

    private static void due(String what, boolean got, boolean want) {
        DUE.due(what, got, want);
    }

    private static void none(String what, int... answers) {
        for (int k = 0; k < answers.length; k++) {
            DUE.due(what + " (" + k + ")", answers[k], Due.NONE);
        }
    }

    /** What status() counts, by its six kinds. */
    private static void refused(RiverRanks x, int... due) {
        for (int kind = 0; kind < due.length; kind++) {
            DUE.due("refused of kind " + kind, x.status(kind), due[kind]);
        }
    }

    private static void promises1to9() {
        newObject();
        feed();
        end();
        net();
        fault();
        has();
        letter();
        reach();
        place();
    }

    /** Promise 1: "No places." */
    private static void newObject() {
        RiverRanks x = new RiverRanks();
        due("places", x.has(0), 0);
        due("reaches", x.has(1), 0);
        due("rivers", x.has(2), 0);
        none("a place", x.place(0, 0), x.beyond(0, 0), x.letter(0, 0, 0));
        due("no reach can come", x.add(0, 0, 1, 1), -1);
    }

    /**
     * Promise 2: "Twenty bytes come behind those on the tape, of each number the highest first: how many there
     * are; NONE, refused (0), if there would be more than 1600."
     */
    private static void feed() {
        RiverRanks x = new RiverRanks();
        // "places ab,cd;" and what is behind it, four bytes a number.
        due("twenty", x.feed(0x706c6163, 0x65732061, 0x622c6364, 0x3b202020, 0x20202020), 20);
        due("one statement", x.net(), 1);
        due("places", x.has(0), 2);
        due("b", x.letter(0, 0, 1), 2);
        due("d", x.letter(0, 1, 1), 4);
        for (int many = 20; many <= 1600; many += 20) {
            due("fed", x.feed(-1, 0, 1, 2, 3), many);
        }
        due("1620", x.feed(0, 0, 0, 0, 0), -1);
        due("the tape is as it was", x.end(1600), true);
        x.end(1581);
        due("1601", x.feed(0, 0, 0, 0, 0), -1);
        x.end(1580);
        due("1600", x.feed(0, 0, 0, 0, 0), 1600);
        refused(x, 2, 0, 0, 0, 0, 0);
    }

    /**
     * Promise 3: "The tape has its first n bytes alone: true; false, refused (0), if it has not so many, or n is
     * below 0."
     */
    private static void end() {
        RiverRanks x = new RiverRanks();
        due("none", x.end(0), true);
        due("one too many", x.end(1), false);
        x.feed(0x706c6163, 0x65732061, 0x3b202021, 0, 0);
        due("21", x.end(21), false);
        due("20", x.end(20), true);
        due("below 0", x.end(-1), false);
        due("its first 9", x.end(9), true);
        due("10 any more", x.end(10), false);
        due("places a;", x.net(), 1);
        refused(x, 4, 0, 0, 0, 0, 0);
    }

    /**
     * Promise 4: "The tape (it goes) is THE NET: how many STATEMENTS; NONE, refused (1), with a FAULT (all stays;
     * one without a STATEMENT has FAULT 1 at its length). Without one nothing is SEEN or can be undone; the
     * seed stays."
     */
    private static void net() {
        RiverRanks x = new RiverRanks();
        due("statements", Due.net(x, Due.text(TALE)), 5);
        due("the tape is gone", x.end(1), false);
        x.seed(5);
        x.gives(3, 9);
        Due.tape(x, 0, 1);
        x.see();
        due("a fault", Due.net(x, "places a,b;reach a to b;"), -1);
        due("the tape is gone", x.end(1), false);
        due("places stay", x.has(0), 5);
        due("acts stay", x.has(6), 1);
        due("rows stay", x.has(7), 1);
        due("without a statement", Due.net(x, " \n "), -1);
        due("fault", x.fault(0), 1);
        due("at its length", x.fault(1), 3);
        refused(x, 2, 2, 0, 0, 0, 0);
        due("another net", Due.net(x, "places k,l;reach k to l long 9;"), 2);
        due("acts", x.has(6), 0);
        due("rows", x.has(7), 0);
        due("rivers", x.has(2), 0);
        x.chance(1);
        due("the seed was still 5", x.reach(0, 3), 45);
    }

    /**
     * Promise 5: "Of the latest net(): its FAULT (what 0; 0 without, and ahead of any), its place (1; NONE
     * without). NONE for another what."
     */
    private static void fault() {
        RiverRanks x = new RiverRanks();
        due("ahead of any", x.fault(0), 0);
        none("ahead of any", x.fault(1), x.fault(2), x.fault(-1));
        Due.net(x, "places a,b;reach a to b long 0;");
        due("a number", x.fault(0), 2);
        due("its place", x.fault(1), 29);
        none("others", x.fault(2), x.fault(-1));
        Due.net(x, "places a;");
        due("without", x.fault(0), 0);
        none("without", x.fault(1), x.fault(2));
    }

    /**
     * Promise 6: "How many there are: 0 PLACES, 1 REACHES, 2 RIVERS, 3 SOURCES, 4 MOUTHS, 5 PLACES that PART, 6
     * ACTS that can be undone, 7 rows SEEN; 8 FLOW of all REACHES that run to MOUTHS, 9 the greatest rank
     * MET (0: none). NONE for others."
     */
    private static void has() {
        RiverRanks x = Due.rivers("abcdef a>c5+10=x b>c3+4=y c>d7+1=x c>e2");
        x.gives(3, 20);
        x.gives(3, 0);
        x.gives(3, 6);
        Due.tape(x, 0, 1, 1, 0);
        x.see();
        int[] due = {6, 4, 2, 2, 2, 1, 3, 2, 21, 2};
        for (int what = 0; what < due.length; what++) {
            due("has " + what, x.has(what), due[what]);
        }
        none("others", x.has(10), x.has(-1));
        due("no rank", Due.rivers("ab").has(9), 0);
    }

    /**
     * Promise 7: "Letter k (0 .. 5) of the NAME of a PLACE (kind 0), a RIVER (1): 1 .. 26; 0 behind it (and of one
     * without a NAME); NONE when there is none such."
     */
    private static void letter() {
        RiverRanks x = Due.of("places az,bcdefg;reach az to bcdefg long 5 called zy;");
        int[][] due = {{1, 26, 0, 0, 0, 0}, {2, 3, 4, 5, 6, 7}, {26, 25, 0, 0, 0, 0}};
        for (int k = 0; k < 6; k++) {
            due("az", x.letter(0, 0, k), due[0][k]);
            due("bcdefg", x.letter(0, 1, k), due[1][k]);
            due("zy", x.letter(1, 0, k), due[2][k]);
        }
        x.cut(0, 2);
        due("without a name", x.letter(0, 2, 0), 0);
        none("none such", x.letter(0, 3, 0), x.letter(0, -1, 0), x.letter(1, 1, 0), x.letter(1, -1, 0),
            x.letter(2, 0, 0), x.letter(-1, 0, 0), x.letter(0, 0, 6), x.letter(0, 0, -1));
    }

    /**
     * Promise 8: "Of a REACH: 0 its HEAD, 1 FOOT, 2 LENGTH, 3 YIELD, 4 RIVER (NONE: not called), 5 FLOW, 6 how many
     * SPRINGS. NONE when there is none such, or for others."
     */
    private static void reach() {
        RiverRanks x = tale();
        int[][] due = {{0, 2, 5, 10, 0, 10, 1}, {1, 2, 3, 4, 1, 4, 1}, {2, 3, 7, 1, 0, 8, 2}, {2, 4, 2, 0, -1, 7, 2}};
        for (int r = 0; r < 4; r++) {
            for (int what = 0; what < 7; what++) {
                due("reach " + r + " what " + what, x.reach(r, what), due[r][what]);
            }
        }
        none("none such", x.reach(4, 0), x.reach(-1, 0), x.reach(30, 5));
        none("others", x.reach(0, 7), x.reach(0, -1));
    }

    /**
     * Promise 9: "Of a PLACE: 0 how many REACHES run to it, 1 from it, 2 whether it is a SOURCE, 3 a MOUTH, 4 FLOW
     * that comes to it, 5 most LENGTH from a SOURCE to it, 6 to a MOUTH (0: none runs). NONE when there is
     * none such, or for others."
     */
    private static void place() {
        RiverRanks x = Due.rivers("abcdef a>c5+10=x b>c3+4=y c>d7+1=x c>e2");
        int[][] due = {{0, 1, 1, 0, 0, 0, 12}, {0, 1, 1, 0, 0, 0, 10}, {2, 2, 0, 0, 14, 5, 7}, {1, 0, 0, 1, 8, 12, 0},
            {1, 0, 0, 1, 7, 7, 0}, {0, 0, 0, 0, 0, 0, 0}};
        for (int p = 0; p < 6; p++) {
            for (int what = 0; what < 7; what++) {
                due("place " + p + " what " + what, x.place(p, what), due[p][what]);
            }
        }
        none("none such", x.place(6, 0), x.place(-1, 0), x.place(20, 4));
        none("others", x.place(0, 7), x.place(0, -1));
    }

    private static void promises10to21() {
        rank();
        goes();
        stem();
        stems();
        beyond();
        springs();
        ways();
        far();
        waters();
        braid();
        streams();
        river();
    }

    /**
     * Promise 10: "The rank of a REACH by a kind (0 MET, 1 FED, 2 BRANCH, 3 CROWN), of these 2, 3 by a WAY (0 ..
     * 2; 0, 1 by any); NONE when there are none such."
     */
    private static void rank() {
        // By flow a to c is the main in of c, by length b to c, by names b to c, called as c to d.
        RiverRanks x = Due.rivers("abcde a>c5+10 b>c9+4=y c>d7+1=y c>e2");
        int[][][] due = {{{1, 1, 2, 2}, {1, 1, 2, 2}, {1, 1, 2, 2}}, {{1, 1, 2, 2}, {1, 1, 2, 2}, {1, 1, 2, 2}},
            {{1, 2, 1, 1}, {2, 1, 1, 1}, {2, 1, 1, 1}}, {{2, 1, 2, 2}, {1, 2, 2, 2}, {1, 2, 2, 2}}};
        for (int kind = 0; kind < 4; kind++) {
            for (int way = 0; way < 3; way++) {
                for (int r = 0; r < 4; r++) {
                    due("kind " + kind + " way " + way + " of " + r, x.rank(r, kind, way), due[kind][way][r]);
                }
            }
        }
        due("by any", x.rank(2, 0, 3), 2);
        due("by any", x.rank(2, 1, -9), 2);
        none("no such way", x.rank(0, 2, 3), x.rank(0, 3, 3), x.rank(0, 2, -1), x.rank(0, 3, -1));
        none("no such kind", x.rank(0, 4, 0), x.rank(0, -1, 0));
        none("no such reach", x.rank(4, 0, 0), x.rank(-1, 3, 0));
    }

    /**
     * Promise 11: "By a WAY the REACH in which one goes on (what 0), that goes on in it (1); NONE when there is
     * none, there are none such, or for others."
     */
    private static void goes() {
        RiverRanks x = Due.rivers("abcde a>c5+10 b>c9+4 c>d7+1=y c>e2");
        due("by flow", x.goes(0, 0, 0), 2);
        due("by length", x.goes(1, 1, 0), 2);
        due("from below by flow", x.goes(2, 0, 1), 0);
        due("from below by length", x.goes(2, 1, 1), 1);
        none("there is none", x.goes(1, 0, 0), x.goes(2, 0, 0), x.goes(0, 0, 1), x.goes(3, 0, 1));
        none("none such", x.goes(4, 0, 0), x.goes(-1, 0, 0), x.goes(0, 3, 0), x.goes(0, -1, 0));
        none("others", x.goes(0, 0, 2), x.goes(0, 0, -1));
    }

    /**
     * Promise 12: "By a WAY the STEM of a REACH, from its top on: its k-th REACH; k NONE: how many. NONE when there
     * is none such."
     */
    private static void stem() {
        RiverRanks x = Due.rivers("abcde a>c5+10 b>c9+4 c>d7+1=y d>e2");
        int[] due = {0, 2, 3};
        for (int k = 0; k < 3; k++) {
            for (int r : due) {
                due("by flow", x.stem(r, 0, k), due[k]);
            }
        }
        due("how many", x.stem(3, 0, -1), 3);
        due("its top by length", x.stem(3, 1, 0), 1);
        due("one alone", x.stem(1, 0, -1), 1);
        none("none such", x.stem(0, 0, 3), x.stem(0, 0, -2), x.stem(1, 0, 1), x.stem(4, 0, -1), x.stem(-1, 0, 0),
            x.stem(0, 3, 0), x.stem(0, -1, 0));
    }

    /**
     * Promise 13: "By a WAY: how many STEMS there are (what 0), how many REACHES the longest has (by LENGTH
     * together; of like ones that of the least top) (1), its LENGTH (2), its top REACH (3). NONE without
     * REACHES (0: 0), when there is no such WAY, or for others."
     */
    private static void stems() {
        RiverRanks x = Due.rivers("abcdef e>f20 a>c5+10 b>c9+4 c>d7+1=y");
        int[][] due = {{3, 1, 20, 0}, {3, 1, 20, 0}, {3, 1, 20, 0}};
        for (int way = 0; way < 3; way++) {
            for (int what = 0; what < 4; what++) {
                due("stems", x.stems(way, what), due[way][what]);
            }
        }
        x.drop(0);
        due("by flow 5 and 7", x.stems(0, 2), 12);
        due("by length 9 and 7", x.stems(1, 2), 16);
        due("its top", x.stems(1, 3), 1);
        due("its reaches", x.stems(1, 1), 2);
        due("of like ones the least top", Due.rivers("abcd a>b3 c>d3").stems(0, 3), 0);
        none("no such way, others", x.stems(3, 0), x.stems(-1, 0), x.stems(0, 4), x.stems(0, -1));
        RiverRanks bare = Due.rivers("ab");
        due("no stems", bare.stems(0, 0), 0);
        none("without reaches", bare.stems(0, 1), bare.stems(1, 2), bare.stems(2, 3));
    }

    /** Promise 14: "PLACES UP of one (what 0), DOWN of it (1), as bits; NONE when there is none such, or for others." */
    private static void beyond() {
        RiverRanks x = tale();
        due("up of c", x.beyond(2, 0), Due.bits(0, 1));
        due("down of c", x.beyond(2, 1), Due.bits(3, 4));
        due("up of d", x.beyond(3, 0), Due.bits(0, 1, 2));
        due("down of d", x.beyond(3, 1), 0);
        none("none such", x.beyond(5, 0), x.beyond(-1, 1));
        none("others", x.beyond(0, 2), x.beyond(0, -1));
    }

    /** Promise 15: "SPRINGS of a REACH, as bits of PLACES; NONE when there is none such." */
    private static void springs() {
        RiverRanks x = tale();
        due("of a to c", x.springs(0), Due.bits(0));
        due("of b to c", x.springs(1), Due.bits(1));
        due("of c to e", x.springs(3), Due.bits(0, 1));
        none("none such", x.springs(4), x.springs(-1));
    }

    /**
     * Promise 16: "How many WAYS lead down from a PLACE to another one (1 to itself; held at 1000000000); NONE when
     * there are none such." So many ways can't be: ten steps of three reaches each make the most.
     */
    private static void ways() {
        RiverRanks x = Due.rivers("abc a>b1 a>b1 b>c1 b>c1 b>c1");
        due("two by three", x.ways(0, 2), 6);
        due("to itself", x.ways(1, 1), 1);
        due("not up", x.ways(2, 0), 0);
        none("none such", x.ways(3, 0), x.ways(0, 3), x.ways(-1, 0), x.ways(0, -1), x.ways(3, 3));
        StringBuilder most = new StringBuilder("abcdefghijk");
        for (char c = 'a'; c < 'k'; c++) {
            String step = " " + c + ">" + (char) (c + 1) + "1";
            most.append(step).append(step).append(step);
        }
        due("the most", Due.rivers(most.toString()).ways(0, 10), 59049);
    }

    /**
     * Promise 17: "The least LENGTH of a WAY down from a PLACE to another one (what 0), the greatest (1); NONE when
     * there is none, there are none such, or for others."
     */
    private static void far() {
        RiverRanks x = Due.rivers("abcd a>b3 a>b5 b>c7 a>c9");
        due("the least", x.far(0, 2, 0), 9);
        due("the greatest", x.far(0, 2, 1), 12);
        due("to itself", x.far(0, 0, 0), 0);
        due("to itself", x.far(3, 3, 1), 0);
        none("there is none", x.far(2, 0, 0), x.far(0, 3, 1));
        none("none such", x.far(4, 0, 0), x.far(0, 4, 0), x.far(-1, 0, 1), x.far(0, -1, 1));
        none("others", x.far(0, 2, 2), x.far(0, 2, -1));
    }

    /** Promise 18: "Where WATERS of two PLACES meet; NONE when nowhere, or there are none such." */
    private static void waters() {
        RiverRanks x = tale();
        due("a and b", x.waters(0, 1), 2);
        due("a and c", x.waters(0, 2), 2);
        due("e and e", x.waters(4, 4), 4);
        none("nowhere", x.waters(3, 4));
        none("none such", x.waters(5, 0), x.waters(0, 5), x.waters(-1, 0), x.waters(0, -1));
    }

    /**
     * Promise 19: "The other PLACE of the BRAID of one; NONE when it does not PART, there is none, or there is none
     * such."
     */
    private static void braid() {
        RiverRanks x = Due.rivers("abcdef a>b1 a>c1 b>d1 c>d1 d>e1 d>f1");
        due("a parts, d joins", x.braid(0), 3);
        none("does not part", x.braid(1), x.braid(4));
        none("there is none", x.braid(3));
        none("none such", x.braid(6), x.braid(-1));
    }

    /**
     * Promise 20: "Of a rank MET (1 and on): 0 how many STREAMS, 1 how many REACHES, 2 LENGTH of all. NONE for a
     * rank below 1, or for others."
     */
    private static void streams() {
        RiverRanks x = Due.rivers("abcdef a>b1 b>c2 d>c4 c>e8 e>f16");
        int[][] due = {{2, 3, 7}, {1, 2, 24}, {0, 0, 0}};
        for (int rank = 1; rank <= 3; rank++) {
            for (int what = 0; what < 3; what++) {
                due("streams of " + rank + " what " + what, x.streams(rank, what), due[rank - 1][what]);
            }
        }
        none("below 1", x.streams(0, 0), x.streams(-1, 1));
        none("others", x.streams(1, 3), x.streams(1, -1));
    }

    /**
     * Promise 21: "Of a RIVER: 0 how many REACHES, 1 LENGTH together, 2 whether TORN (0 of none), 3 the first of its
     * REACHES by numbers (NONE: none). NONE when there is none such, or for others."
     */
    private static void river() {
        RiverRanks x = Due.rivers("abcd a>b1=y a>b2=x b>c4 c>d8=x");
        int[][] due = {{1, 1, 0, 0}, {2, 10, 1, 1}};
        for (int river = 0; river < 2; river++) {
            for (int what = 0; what < 4; what++) {
                due("river " + river + " what " + what, x.river(river, what), due[river][what]);
            }
        }
        x.call(2, 1);
        due("not torn any more", x.river(1, 2), 0);
        x.call(0, -1);
        due("none is called so", x.river(0, 0), 0);
        due("no length", x.river(0, 1), 0);
        due("not torn", x.river(0, 2), 0);
        none("no first", x.river(0, 3));
        none("none such", x.river(2, 0), x.river(-1, 0));
        none("others", x.river(0, 4), x.river(0, -1));
    }

    private static void promises22to31() {
        canTurn();
        would();
        loss();
        starves();
        fewest();
        wave();
        changed();
        see();
        fits();
        tells();
    }

    /** Promise 22: "Whether a REACH can be TURNED: 1, 0; NONE when there is none such." */
    private static void canTurn() {
        RiverRanks x = Due.rivers("abc a>b1 b>c1 a>c1");
        due("a to b", x.canTurn(0), 1);
        due("b to c", x.canTurn(1), 1);
        due("a to c, past b", x.canTurn(2), 0);
        none("none such", x.canTurn(3), x.canTurn(-1));
        due("it only asks", x.has(6), 0);
    }

    /**
     * Promise 23: "Were a REACH TURNED: 0 the greatest rank MET, 1 how many MOUTHS, 2 how many REACHES would have
     * another rank MET. NONE when it can't be, there is none such, or for others."
     */
    private static void would() {
        RiverRanks x = tale();
        // With c to a all run from b, so that c to d and c to e have rank 1.
        due("greatest", x.would(0, 0), 1);
        due("mouths a, d, e", x.would(0, 1), 3);
        due("c to d and c to e", x.would(0, 2), 2);
        // With d to c three meet at c: d to c has 1 then, c to e still 2.
        due("greatest", x.would(2, 0), 2);
        due("mouth e", x.would(2, 1), 1);
        due("d to c", x.would(2, 2), 1);
        due("it is not turned", x.reach(2, 0), 2);
        none("can't be", Due.rivers("abc a>b1 b>c1 a>c1").would(2, 0));
        none("none such", x.would(4, 0), x.would(-1, 0));
        none("others", x.would(0, 3), x.would(0, -1));
    }

    /** Promise 24: "LOSS of a REACH; NONE when there is none such." */
    private static void loss() {
        RiverRanks x = tale();
        int[] due = {10, 4, 1, 0};
        for (int r = 0; r < 4; r++) {
            due("loss of " + r, x.loss(r), due[r]);
        }
        none("none such", x.loss(4), x.loss(-1));
        due("it only asks", x.has(1), 4);
    }

    /**
     * Promise 25: "The REACH of the greatest LOSS, of like ones the first (what 0), the LOSS (1). NONE without
     * REACHES, or for others."
     */
    private static void starves() {
        RiverRanks x = Due.rivers("abcd a>c1+3 b>c1+7 c>d1");
        due("c to d", x.starves(0), 2);
        due("all of it", x.starves(1), 10);
        due("of like ones the first", Due.rivers("abc a>b1+3 a>c1+3").starves(0), 0);
        due("no loss", Due.rivers("abc a>b1 a>c1").starves(1), 0);
        none("without reaches", Due.rivers("ab").starves(0), Due.rivers("ab").starves(1));
        none("others", x.starves(2), x.starves(-1));
    }

    /**
     * Promise 26: "The fewest REACHES by which a PLACE is CUT OFF (0: by none it is); NONE of a SOURCE, or when there
     * is none such."
     */
    private static void fewest() {
        RiverRanks x = Due.rivers("abcdef a>c1 b>c1 c>d1 c>d1 c>d1 d>e1");
        int[] due = {-1, -1, 2, 2, 1, 0};
        for (int p = 0; p < 6; p++) {
            due("fewest of " + p, x.fewest(p), due[p]);
        }
        none("none such", x.fewest(6), x.fewest(-1));
    }

    /**
     * Promise 27: "WAVES at a PLACE (at a SOURCE its own at 0): the most that come there at one hour (what 0), the
     * first such hour (1), the last hour at which one comes (2), how many come (3). NONE when none comes (3:
     * 0), there is none such, or for others."
     */
    private static void wave() {
        RiverRanks x = Due.rivers("abcdefgh a>f9 b>f9 c>f2 d>f2 e>f30 f>g1+1 f>h1");
        int[] due = {2, 2, 30, 5};
        int[] source = {1, 0, 0, 1};
        for (int what = 0; what < 4; what++) {
            due("at f", x.wave(5, what), due[what]);
            due("at a", x.wave(0, what), source[what]);
        }
        due("at g an hour later", x.wave(6, 1), 3);
        none("none comes to h", x.wave(7, 0), x.wave(7, 1), x.wave(7, 2));
        due("how many to h", x.wave(7, 3), 0);
        none("none such", x.wave(8, 3), x.wave(-1, 3));
        none("others", x.wave(5, 4), x.wave(5, -1));
    }

    /**
     * Promise 28: "By the latest ACT that was not refused or undone: how many REACHES had another rank of a kind (0
     * .. 3, by WAY 0) behind it than the one of that number ahead of it (those that were not there, or are
     * not, aside). NONE ahead of any, behind undo(), net(), or for others."
     */
    private static void changed() {
        RiverRanks x = tale();
        none("ahead of any", x.changed(0), x.changed(3));
        x.add(0, 1, 5, 2);
        int[] due = {2, 2, 0, 3};
        for (int kind = 0; kind < 4; kind++) {
            due("kind " + kind, x.changed(kind), due[kind]);
        }
        x.add(0, 0, 1, 1);
        due("a refused one is none", x.changed(0), 2);
        none("others", x.changed(4), x.changed(-1));
        x.undo();
        none("behind undo", x.changed(0), x.changed(1), x.changed(2), x.changed(3));
        // Numbers 0 to 2 are b to c, c to d, c to e then, all of rank 1: number 2 had rank 2.
        x.drop(0);
        due("number 2", x.changed(0), 1);
        x.gives(0, 5);
        due("nothing by a yield", x.changed(0), 0);
        Due.net(x, "places a;");
        none("behind net", x.changed(0));
    }

    /**
     * Promise 29: "The tape (it goes) tells what is SEEN, 1 to 12 rows of two bytes (a REACH; 1 or 0): how many rows;
     * NONE, refused (1), all staying, when it is none such."
     */
    private static void see() {
        RiverRanks x = tale();
        Due.tape(x, 3, 1, 0, 0, 3, 1);
        due("three rows", x.see(), 3);
        due("the tape is gone", x.end(1), false);
        int[][] wrong = {{}, {1}, {4, 1}, {0, 2}, {0, 1, 1}, {255, 0}, new int[26]};
        for (int[] bytes : wrong) {
            Due.tape(x, bytes);
            due("wrong rows", x.see(), -1);
            due("the tape is gone", x.end(1), false);
            due("rows stay", x.has(7), 3);
        }
        refused(x, 8, 7, 0, 0, 0, 0);
        Due.tape(x, new int[24]);
        due("twelve rows", x.see(), 12);
    }

    /** Promise 30: "FITS, as bits of PLACES; NONE when nothing is SEEN, or of a REACH that is none by now." */
    private static void fits() {
        RiverRanks x = tale();
        none("nothing seen", x.fits());
        Due.tape(x, 3, 1, 1, 0);
        x.see();
        due("a and c", x.fits(), Due.bits(0, 2));
        x.drop(0);
        none("no reach 3 by now", x.fits());
        x.undo();
        due("again", x.fits(), Due.bits(0, 2));
        Due.tape(x, 0, 1, 1, 1);
        x.see();
        due("nowhere", x.fits(), 0);
    }

    /**
     * Promise 31: "TELLING: the REACH (what 0), how many FITS are left at the most (1). NONE without FITS, or for
     * others."
     */
    private static void tells() {
        RiverRanks x = tale();
        none("nothing seen", x.tells(0), x.tells(1));
        Due.tape(x, 2, 1, 0, 0);
        x.see();
        // b and c fit: b to c tells them apart.
        due("b to c", x.tells(0), 1);
        due("one is left", x.tells(1), 1);
        none("others", x.tells(2), x.tells(-1));
        Due.tape(x, 0, 1, 1, 1);
        x.see();
        none("without fits", x.tells(0), x.tells(1));
    }

    private static void promises32to38() {
        add();
        drop();
        cut();
        turn();
        gives();
        call();
        chance();
    }

    /**
     * Promise 32: "A REACH comes from a PLACE to another one, of a LENGTH, a YIELD: its number; NONE, refused (2),
     * when it would close a ring, there are 30, or these can't be."
     */
    private static void add() {
        RiverRanks x = Due.rivers("abc a>b1");
        due("its number", x.add(1, 2, 99, 99), 1);
        due("length", x.reach(1, 2), 99);
        due("yield", x.reach(1, 3), 99);
        none("a ring", x.add(2, 0, 1, 1), x.add(1, 1, 1, 1));
        none("these can't be", x.add(3, 0, 1, 1), x.add(0, 3, 1, 1), x.add(-1, 0, 1, 1), x.add(0, -1, 1, 1),
            x.add(0, 1, 0, 1), x.add(0, 1, 100, 1), x.add(0, 1, 1, -1), x.add(0, 1, 1, 100));
        refused(x, 0, 0, 10, 0, 0, 0);
        for (int r = 2; r < 30; r++) {
            due("its number", x.add(0, 2, 1, 0), r);
        }
        none("there are 30", x.add(0, 2, 1, 0));
        refused(x, 0, 0, 11, 0, 0, 0);
    }

    /** Promise 33: "A REACH goes: true; false, refused (2), when there is none such." */
    private static void drop() {
        RiverRanks x = tale();
        due("c to e", x.drop(3), true);
        due("all flows to d", x.reach(2, 5), 15);
        due("no reach 3", x.drop(3), false);
        due("no reach -1", x.drop(-1), false);
        due("reaches", x.has(1), 3);
        due("acts", x.has(6), 1);
        refused(x, 0, 0, 2, 0, 0, 0);
    }

    /**
     * Promise 34: "A REACH is CUT at n (1 .. LENGTH less 1): the new PLACE; NONE, refused (2), when n can't be, there
     * are 20 PLACES, 30 REACHES, or there is none such."
     */
    private static void cut() {
        RiverRanks x = tale();
        due("at its length less 1", x.cut(0, 4), 5);
        due("at 1", x.cut(0, 1), 6);
        none("n can't be", x.cut(1, 0), x.cut(1, 3), x.cut(1, -1), x.cut(0, 1));
        none("none such", x.cut(6, 1), x.cut(-1, 1));
        refused(x, 0, 0, 6, 0, 0, 0);
        RiverRanks places = Due.rivers("abcdefghijklmnopqrst a>b9");
        none("20 places", places.cut(0, 4));
        RiverRanks reaches = Due.rivers("ab" + " a>b9".repeat(30));
        none("30 reaches", reaches.cut(0, 4));
        reaches.drop(29);
        due("29 reaches", reaches.cut(0, 4), 2);
    }

    /** Promise 35: "A REACH is TURNED: true; false, refused (3), when it can't be, or there is none such." */
    private static void turn() {
        RiverRanks x = Due.rivers("abc a>b1 b>c1 a>c1");
        due("can't be", x.turn(2), false);
        due("b to c", x.turn(1), true);
        due("its head", x.reach(1, 0), 2);
        due("its foot", x.reach(1, 1), 1);
        due("a to c can be now", x.canTurn(2), 1);
        due("none such", x.turn(3), false);
        due("none such", x.turn(-1), false);
        refused(x, 0, 0, 0, 3, 0, 0);
    }

    /**
     * Promise 36: "Another YIELD (0 .. 99) of a REACH: true; false, refused (3), when it is that, or these can't
     * be."
     */
    private static void gives() {
        RiverRanks x = tale();
        due("another", x.gives(1, 99), true);
        due("yield", x.reach(1, 3), 99);
        due("flow", x.reach(1, 5), 99);
        due("it is that", x.gives(1, 99), false);
        due("too much", x.gives(1, 100), false);
        due("too little", x.gives(1, -1), false);
        due("none such", x.gives(4, 1), false);
        due("none such", x.gives(-1, 1), false);
        due("none", x.gives(1, 0), true);
        refused(x, 0, 0, 0, 5, 0, 0);
    }

    /**
     * Promise 37: "A REACH is called as a RIVER (NONE: not any more): true; false, refused (3), when it is so, or
     * there are none such."
     */
    private static void call() {
        RiverRanks x = tale();
        due("c to e as y", x.call(3, 1), true);
        due("its river", x.reach(3, 4), 1);
        due("it is so", x.call(3, 1), false);
        due("not any more", x.call(3, -1), true);
        due("its river", x.reach(3, 4), -1);
        due("it is so", x.call(3, -1), false);
        due("no such river", x.call(3, 2), false);
        due("no such river", x.call(3, -2), false);
        due("no such reach", x.call(4, 0), false);
        due("no such reach", x.call(-1, 0), false);
        due("rivers", x.has(2), 2);
        refused(x, 0, 0, 0, 6, 0, 0);
    }

    /**
     * Promise 38: "n times by the seed (1 .. 40), one ACT: how many REACHES there are then; NONE, refused (3), when n
     * can't be, or there are no REACHES."
     */
    private static void chance() {
        RiverRanks x = Due.rivers("ab a>b9");
        // The seed is 1: it is cut at 4, then its upper part at 2.
        due("three reaches", x.chance(2), 3);
        due("its length", x.reach(0, 2), 2);
        due("one act", x.has(6), 1);
        none("n can't be", x.chance(0), x.chance(41), x.chance(-1));
        due("undone", x.undo(), true);
        due("one reach", x.has(1), 1);
        due("forty times", x.chance(40) >= 1, true);
        due("one act", x.has(6), 1);
        refused(x, 0, 0, 0, 3, 0, 0);
        RiverRanks bare = Due.rivers("ab");
        none("no reaches", bare.chance(1));
        refused(bare, 0, 0, 0, 1, 0, 0);
    }

    private static void promises39to44() {
        undo();
        seed();
        image();
        octet();
        on();
        status();
    }

    /**
     * Promise 39: "The latest ACT is undone (the seed, what is SEEN stay): true; false, refused (4), when none can
     * be."
     */
    private static void undo() {
        RiverRanks x = Due.rivers("ab a>b9");
        due("none can be", x.undo(), false);
        x.seed(5);
        x.chance(1);
        due("yield by 5", x.reach(0, 3), 45);
        Due.tape(x, 0, 1);
        x.see();
        due("undone", x.undo(), true);
        due("yield", x.reach(0, 3), 0);
        due("rows stay", x.has(7), 1);
        // Behind 5 the seed is 695785320; from there on 2 of 4: had it gone back, the yield were 45 again.
        x.chance(1);
        due("yield", x.reach(0, 3), 0);
        refused(x, 0, 0, 0, 0, 1, 0);
    }

    /** Promise 40: "The seed: true; false, refused (5), when it is below 0. (It is 1 at first.)" */
    private static void seed() {
        RiverRanks first = Due.rivers("ab a>b9");
        RiverRanks one = Due.rivers("ab a>b9");
        due("one", one.seed(1), true);
        first.chance(9);
        one.chance(9);
        due("alike", first.image(), one.image());
        for (int k = 0; k < 60; k++) {
            due("alike", first.octet(k), one.octet(k));
        }
        due("below 0", one.seed(-1), false);
        due("the least", one.seed(Integer.MIN_VALUE), false);
        due("none", one.seed(0), true);
        due("the greatest", one.seed(Integer.MAX_VALUE), true);
        refused(one, 0, 0, 0, 0, 0, 2);
    }

    /** Promise 41: "AN IMAGE is written: how many bytes." */
    private static void image() {
        due("of a new one", new RiverRanks().image(), 3);
        due("of four reaches", tale().image(), 23);
        due("of thirty", Due.rivers("ab" + " a>b9".repeat(30)).image(), 153);
    }

    /** Promise 42: "Byte k of the latest image(); NONE when there is none such." */
    private static void octet() {
        RiverRanks x = Due.rivers("abc a>b5+6=x");
        none("ahead of any", x.octet(0));
        x.image();
        int[] due = {3, 1, 0, 1, 5, 6, 0};
        for (int k = 0; k < due.length; k++) {
            due("byte " + k, x.octet(k), due[k]);
        }
        x.drop(0);
        due("the latest image", x.octet(1), 1);
        none("none such", x.octet(8), x.octet(-1));
        x.image();
        due("the latest image", x.octet(1), 0);
        none("none such", x.octet(3));
    }

    /**
     * Promise 43: "The tape (it goes) is AN IMAGE (PLACES 1 .. 20, REACHES as acts can make them, RIVERS that there
     * are): true, PLACES (without NAMES), REACHES are as it tells, nothing can be undone, changed() is NONE;
     * false, refused (5), all staying, when it is none."
     */
    private static void on() {
        RiverRanks x = tale();
        x.gives(3, 5);
        int[] image = new int[x.image()];
        for (int k = 0; k < image.length; k++) {
            image[k] = x.octet(k);
        }
        x.drop(0);
        int last = image.length - 1;
        image[last]++;
        Due.tape(x, image);
        due("a wrong last byte", x.on(), false);
        due("the tape is gone", x.end(1), false);
        due("all stays", x.has(1), 3);
        due("acts stay", x.has(6), 2);
        due("changed stays", x.changed(0), 1);
        image[last]--;
        Due.tape(x, image);
        due("an image", x.on(), true);
        due("reaches", x.has(1), 4);
        due("yield", x.reach(3, 3), 5);
        due("river", x.reach(2, 4), 0);
        due("without a name", x.letter(0, 0, 0), 0);
        due("rivers", x.has(2), 2);
        due("nothing can be undone", x.has(6), 0);
        none("changed", x.changed(0));
        // No places; one river that there is not; one reach with a ring.
        int[][] wrong = {{0, 0, 213}, {21, 0, 25}, {2, 1, 0, 1, 1, 0, 2, 0}, {2, 1, 1, 1, 1, 0, 255, 0}, {1, 0}, {}};
        for (int[] bytes : wrong) {
            checked(bytes);
            Due.tape(x, bytes);
            due("no image", x.on(), false);
            due("reaches stay", x.has(1), 4);
        }
        refused(x, 1, 0, 0, 0, 0, 7);
    }

    /** Makes the last byte what it must be. */
    private static void checked(int[] bytes) {
        int c = 191;
        for (int k = 0; k < bytes.length - 1; k++) {
            c = (3 * c + bytes[k]) % 251;
        }
        if (bytes.length > 0) {
            bytes[bytes.length - 1] = c;
        }
    }

    /**
     * Promise 44: "How many were refused: 0 feed(), end(); 1 net(), see(); 2 add(), drop(), cut(); 3 turn(), gives(),
     * call(), chance(); 4 undo(); 5 seed(), on(). NONE for others."
     */
    private static void status() {
        RiverRanks x = new RiverRanks();
        refused(x, 0, 0, 0, 0, 0, 0);
        x.end(1);
        x.net();
        x.see();
        x.add(0, 1, 1, 1);
        x.drop(0);
        x.cut(0, 1);
        x.turn(0);
        x.gives(0, 1);
        x.call(0, 0);
        x.chance(1);
        x.undo();
        x.seed(-1);
        x.on();
        refused(x, 1, 2, 3, 4, 1, 2);
        for (int many = 0; many <= 80; many++) {
            x.feed(0, 0, 0, 0, 0);
        }
        refused(x, 2, 2, 3, 4, 1, 2);
        none("others", x.status(6), x.status(-1));
        x.reach(0, 0);
        x.octet(9);
        refused(x, 2, 2, 3, 4, 1, 2);
    }
}
