/** The document's Terms from their first line on: each sentence, and what it says of nets worked by hand. */
final class TermsTest {
    private static final Due DUE = new Due();

    public static void main(String[] args) {
        textsAndFaults();
        netsAndFlow();
        ranksAndStems();
        partings();
        acts();
        watersAndWays();
        wavesAndLosses();
        dyeAndImages();
        DUE.close("TermsTest");
    }

    // ---- I

    private static void textsAndFaults() {
        statements();
        numbering();
        names();
        numbersAndBlanks();
        bytesThatDoNotGoOn();
        numbersNamesRings();
        oneTooMany();
    }

    private static RiverRanks fine(String text, int statements) {
        RiverRanks x = new RiverRanks();
        DUE.due("net of " + text, Due.net(x, text), statements);
        DUE.due("fault of " + text, x.fault(0), 0);
        DUE.due("place of " + text, x.fault(1), -1);
        return x;
    }

    private static void fault(int which, int at, String text) {
        RiverRanks x = new RiverRanks();
        DUE.due("net of " + text, Due.net(x, text), -1);
        DUE.due("fault of " + text, x.fault(0), which);
        DUE.due("place of " + text, x.fault(1), at);
        DUE.due("places behind " + text, x.has(0), 0);
    }

    /** What a reach tells of itself: head, foot, length, yield, river. */
    private static void reach(RiverRanks x, int reach, int... due) {
        for (int what = 0; what < due.length; what++) {
            DUE.due("reach " + reach + " what " + what, x.reach(reach, what), due[what]);
        }
    }

    private static String letters(int many) {
        StringBuilder row = new StringBuilder();
        for (int i = 0; i < many; i++) {
            row.append(i == 0 ? "" : ",").append((char) ('a' + i));
        }
        return row.toString();
    }

    /**
     * Terms I: "A NET is a text: { STATEMENT ; }: places NAME { , NAME } (first, and that alone; 1 to 20),
     * reach NAME to NAME long N [ yields N ] [ called NAME ] (PLACES, unlike; LENGTH 1 .. 99; YIELD 0 ..
     * 99, 0 without; 30 at most)."
     */
    private static void statements() {
        fine("places a;", 1);
        fine("places " + letters(20) + ";", 1);
        RiverRanks x = fine("places a,b;reach a to b long 1;reach a to b long 99 yields 99;"
            + "reach a to b long 2 called r;reach a to b long 3 yields 0 called r;", 5);
        reach(x, 0, 0, 1, 1, 0, -1);
        reach(x, 1, 0, 1, 99, 99, -1);
        reach(x, 2, 0, 1, 2, 0, 0);
        reach(x, 3, 0, 1, 3, 0, 0);
        fine("places a,b;" + "reach a to b long 1;".repeat(30), 31);
        fault(1, 0, "reach a to b long 1;");
        fault(1, 9, "places a;places b;");
        fault(1, 8, "places a");
        fault(1, 30, "places a,b;reach a to b long 1");
        fault(1, 40, "places a,b;reach a to b long 1 called x yields 1;");
    }

    /** Terms I: "PLACES, REACHES are numbered from 0 on as told, RIVERS as they are called first (10 at most)." */
    private static void numbering() {
        RiverRanks x = fine("places c,b,a;reach c to a long 7 called s;reach b to a long 8 called r;"
            + "reach c to b long 9 called s;", 4);
        DUE.due("place 0 is c", x.letter(0, 0, 0), 3);
        DUE.due("place 2 is a", x.letter(0, 2, 0), 1);
        reach(x, 0, 0, 2, 7, 0, 0);
        reach(x, 1, 1, 2, 8, 0, 1);
        reach(x, 2, 0, 1, 9, 0, 0);
        DUE.due("river 0 is s", x.letter(1, 0, 0), 19);
        DUE.due("river 1 is r", x.letter(1, 1, 0), 18);
        DUE.due("rivers", x.has(2), 2);
    }

    /**
     * Terms I: "NAMES: 1 to 6 letters, no OWN WORD: places, reach, to, long, yields, called; PLACES all
     * unlike."
     */
    private static void names() {
        fine("places a,abcdef,place,toto;", 1);
        String[] own = {"places", "reach", "to", "long", "yields", "called"};
        for (String word : own) {
            fault(1, 7, "places " + word + ";");
            fault(1, 38, "places a,b;reach a to b long 1 called " + word + ";");
        }
        fault(1, 7, "places A;");
        fault(1, 13, "places abcdefg;");
        fault(3, 9, "places a,a;");
        fine("places a,b;reach a to b long 1 called a;", 2);
    }

    /**
     * Terms I: "NUMBERS: 1 or 2 digits. Blanks (10, 32) are where one likes (words and numbers side by side
     * need one)."
     */
    private static void numbersAndBlanks() {
        RiverRanks x = fine("places a,b;reach a to b long 07 yields 00;", 2);
        reach(x, 0, 0, 1, 7, 0, -1);
        fine("\n places\na , b\n; reach  a\nto\n\nb long 5 yields 6 called c ;\n \n", 2);
        fault(1, 6, "places\ta;");
        fault(1, 8, "places a\r;");
        fault(1, 28, "places a,b;reach a to b long5;");
        fault(1, 30, "places a,b;reach a to b long 5yields 1;");
        fault(1, 18, "places a,b;reach a7 to b long 5;");
    }

    /**
     * Terms I: "FAULTS, the first along the text: 1 the first byte with which no such text goes on (words
     * and numbers whole, at their first byte; where a NAME is asked, an OWN WORD so, a 7th letter at
     * itself; a 3rd digit at itself; at the text's length, if it ends too soon);"
     */
    private static void bytesThatDoNotGoOn() {
        fault(1, 0, "place a;");
        fault(1, 0, "placesa;");
        fault(1, 11, "places a,b;reaches a to b long 1;");
        fault(1, 19, "places a,b;reach a too b long 1;");
        fault(1, 11, "places a,b;5 a to b long 1;");
        fault(1, 29, "places a,b;reach a to b long x;");
        fault(1, 17, "places a,b;reach to to b long 1;");
        fault(1, 23, "places a,b;reach abcdefghi to b long 1;");
        fault(1, 31, "places a,b;reach a to b long 123;");
        fault(1, 40, "places a,b;reach a to b long 1 yields 9 9;");
        fault(1, 6, "places");
        fault(1, 9, "places a,");
        fault(1, 18, "places a,b;reach a");
        fault(1, 0, "");
        fault(1, 2, " \n");
        fault(1, 7, "places !,!;");
        fault(1, 16, "places a;reach  ;");
        fault(3, 9, "places a,a,;!");
    }

    /**
     * Terms I: "2 a number that can't be, at it; 3 a NAME that is there already, one that is no PLACE, at
     * it; 4 a second PLACE of a reach that is the first one, or from which one comes down to that, at it;"
     */
    private static void numbersNamesRings() {
        fault(2, 29, "places a,b;reach a to b long 0;");
        fault(2, 29, "places a,b;reach a to b long 00 yields;");
        fault(3, 12, "places aa,b,aa;");
        fault(3, 17, "places a,b;reach c to b long 1;");
        fault(3, 22, "places a,b;reach a to c long 1;");
        fault(4, 22, "places a,b;reach a to a long 1;");
        String chain = "places a,b,c;reach a to b long 1;reach b to c long 1;";
        fault(4, chain.length() + 11, chain + "reach c to a long 1;");
        fault(4, chain.length() + 11, chain + "reach b to a long 1;");
        fine(chain + "reach a to c long 1;", 4);
    }

    /**
     * Terms I: "5 one too many, at its first byte: a 21st NAME of a row (at the first byte behind the comma
     * that is no blank, whatever it is, but 1 at the text's end), a 31st reach, an 11th RIVER."
     */
    private static void oneTooMany() {
        String row = "places " + letters(20) + ",";
        fault(5, row.length(), row + "z;");
        fault(5, row.length() + 2, row + " \nz;");
        fault(5, row.length(), row + ";");
        fault(5, row.length(), row + "a;");
        fault(1, row.length(), row);
        fault(1, row.length() + 2, row + "  ");
        String full = "places a,b;" + "reach a to b long 1;".repeat(30);
        fault(5, full.length() + 1, full + " reach a to b long 1;");
        fault(1, full.length(), full + "places c;");
        StringBuilder text = new StringBuilder("places a,b;");
        for (char c = 'a'; c < 'k'; c++) {
            text.append("reach a to b long 1 called ").append(c).append(';');
        }
        fine(text + "reach a to b long 1 called j;", 12);
        fault(5, text.length() + 27, text + "reach a to b long 1 called k;");
    }

    // ---- II

    private static void netsAndFlow() {
        headAndFoot();
        sourcesAndMouths();
        upAndDown();
        flow();
        springs();
    }

    /** Terms II: "A REACH runs from its first PLACE, its HEAD, down to the second one, its FOOT." */
    private static void headAndFoot() {
        RiverRanks x = Due.rivers("ab b>a3");
        reach(x, 0, 1, 0, 3);
        DUE.due("down of b", x.beyond(1, 1), Due.bits(0));
        DUE.due("down of a", x.beyond(0, 1), 0);
    }

    /**
     * Terms II: "SOURCES are PLACES of which some REACH is the HEAD's, none the FOOT's (from which one runs,
     * to which none does); MOUTHS those to which one runs, from which none does."
     */
    private static void sourcesAndMouths() {
        RiverRanks x = Due.rivers("abcde a>b1 c>b1 b>d1");
        int[] sources = {1, 0, 1, 0, 0};
        int[] mouths = {0, 0, 0, 1, 0};
        for (int p = 0; p < 5; p++) {
            DUE.due("source " + p, x.place(p, 2), sources[p]);
            DUE.due("mouth " + p, x.place(p, 3), mouths[p]);
        }
        DUE.due("sources", x.has(3), 2);
        DUE.due("mouths", x.has(4), 1);
    }

    /**
     * Terms II: "DOWN of a PLACE are those to which one comes by REACHES, UP those from which one comes to
     * it (not itself). No REACH may close a ring."
     */
    private static void upAndDown() {
        RiverRanks x = Due.rivers("abcde a>b1 b>c1 d>c1");
        int[] up = {0, Due.bits(0), Due.bits(0, 1, 3), 0, 0};
        int[] down = {Due.bits(1, 2), Due.bits(2), 0, Due.bits(2), 0};
        for (int p = 0; p < 5; p++) {
            DUE.due("up of " + p, x.beyond(p, 0), up[p]);
            DUE.due("down of " + p, x.beyond(p, 1), down[p]);
        }
        DUE.due("a ring of one", x.add(1, 1, 1, 1), -1);
        DUE.due("a ring of two", x.add(1, 0, 1, 1), -1);
        DUE.due("a ring of three", x.add(2, 0, 1, 1), -1);
        DUE.due("no ring", x.add(0, 2, 1, 1), 3);
        DUE.due("a to c can't run up, b lies between", x.turn(3), false);
        Due.tape(x, 2, 2, 0, 1, 1, 0, 255, 1, 0, 1, 0, 255, 0);
        DUE.due("nor by an image", x.on(), false);
    }

    /**
     * Terms II: "FLOW of a REACH: its YIELD and its SHARE of what comes to its HEAD: FLOW of all REACHES
     * that run there, by how many run from there, cut; of what is left one more each for the first ones,
     * by numbers."
     */
    private static void flow() {
        RiverRanks x = Due.rivers("abcdef a>c1+7 b>c1+4 c>f1 c>d1+1 c>e1+2");
        // 11 come to c: 3 for each of three, 1 more for the first two by numbers.
        int[] due = {7, 4, 4, 5, 5};
        for (int r = 0; r < 5; r++) {
            DUE.due("flow of " + r, x.reach(r, 5), due[r]);
        }
        RiverRanks little = Due.rivers("abcde a>b1+2 b>c1 b>d1 b>e1+5 d>e1+3");
        int[] parted = {2, 1, 1, 5, 4};
        for (int r = 0; r < 5; r++) {
            DUE.due("little flow of " + r, little.reach(r, 5), parted[r]);
        }
        DUE.due("comes to e", little.place(4, 4), 9);
        DUE.due("comes to all mouths", little.has(8), 10);
    }

    /** Terms II: "SPRINGS of a REACH are SOURCES that are its HEAD, or UP of it." */
    private static void springs() {
        RiverRanks x = Due.rivers("abcdef a>c1 b>c1 c>d1 e>d1 d>f1");
        int[] due = {Due.bits(0), Due.bits(1), Due.bits(0, 1), Due.bits(4), Due.bits(0, 1, 4)};
        for (int r = 0; r < 5; r++) {
            DUE.due("springs of " + r, x.springs(r), due[r]);
        }
    }

    // ---- RANKS

    private static void ranksAndStems() {
        met();
        fed();
        mainInByFlow();
        mainInByLength();
        mainInByNames();
        mainOut();
        likeOnes();
        stems();
        branch();
        crown();
    }

    private static void ranks(String told, int kind, int way, int... due) {
        RiverRanks x = Due.rivers(told);
        DUE.due("reaches of " + told, x.has(1), due.length);
        for (int r = 0; r < due.length; r++) {
            DUE.due("kind " + kind + " of reach " + r + " of " + told, x.rank(r, kind, way), due[r]);
        }
    }

    /**
     * Terms II: "RANKS of a REACH, by kinds: 0 MET: of a HEAD that is a SOURCE 1; else the greatest of those
     * that run to its HEAD, and 1 more, if two of that rank have no SPRING in common."
     */
    private static void met() {
        ranks("abcdefgh a>c1 b>c1 c>g1 d>f1 e>f1 f>g1 g>h1", 0, 0, 1, 1, 2, 1, 1, 2, 3);
        ranks("abcdef a>c1 b>c1 c>e1 d>e1 e>f1", 0, 0, 1, 1, 2, 1, 2);
        ranks("abc a>b1 a>b1 b>c1", 0, 0, 1, 1, 1);
        ranks("abcd a>c1 a>c1 b>c1 c>d1", 0, 0, 1, 1, 1, 2);
        ranks("abcdefg a>c1 b>c1 c>d1 c>e1 d>f1 e>f1 f>g1", 0, 0, 1, 1, 2, 2, 2, 2, 2);
    }

    /** Terms II: "1 FED: how many SPRINGS it has." */
    private static void fed() {
        ranks("abcdef a>c1 b>c1 c>d1 e>d1 d>f1", 1, 0, 1, 1, 2, 1, 3);
        ranks("abcd a>b1 a>c1 b>d1 c>d1", 1, 0, 1, 1, 1, 1);
    }

    private static void goes(String told, int way, int reach, int due) {
        DUE.due("by " + way + " reach " + reach + " of " + told, Due.rivers(told).goes(reach, way, 0), due);
    }

    /**
     * Terms II: "STEMS, by a WAY (0 by FLOW, 1 by LENGTH, 2 by NAMES): at each PLACE one REACH that runs to
     * it is its MAIN IN (WAY 0: of the greatest FLOW;"
     */
    private static void mainInByFlow() {
        String told = "abcd a>c9+3 b>c1+5=x c>d1=y";
        goes(told, 0, 0, -1);
        goes(told, 0, 1, 2);
    }

    /** Terms II: "1: whose LENGTH and what it is most from a SOURCE to its HEAD together is greatest;" */
    private static void mainInByLength() {
        goes("abcd a>c9+3 b>c1+5=x c>d1=y", 1, 0, 2);
        goes("abcd a>c9+3 b>c1+5=x c>d1=y", 1, 1, -1);
        // 8 and 1 to d from a, or 2 and 1; 5 from c.
        String told = "abcde a>b8 b>d1 c>d5+1 d>e1 a>b2";
        goes(told, 1, 1, 3);
        goes(told, 1, 2, -1);
        goes(told, 0, 2, 3);
    }

    /**
     * Terms II: "2: one called as the MAIN OUT by WAY 0 of that PLACE, if that is called, the first such,
     * else as by 0),"
     */
    private static void mainInByNames() {
        goes("abcd a>c1+9 b>c1+1=x c>d1=x", 2, 1, 2);
        goes("abcd a>c1+9 b>c1+1=x c>d1=x", 2, 0, -1);
        goes("abcd a>c1+9 b>c1+1=x c>d1=x", 0, 0, 2);
        goes("abcde a>d1+9 b>d1+1=x c>d1+2=x d>e1=x", 2, 1, 3);
        goes("abcd a>c1+1=x b>c1+9 c>d1", 2, 1, 2);
        goes("abcd a>c1+1=y b>c1+9 c>d1=x", 2, 1, 2);
        goes("abcd a>c1+1 b>c1+9=y c>d1", 2, 1, 2);
    }

    /**
     * Terms II: "one that runs from it its MAIN OUT (of the greatest FLOW; WAY 2: one called as the MAIN IN
     * by WAY 0, if that is called, the first such, else as by 0);"
     */
    private static void mainOut() {
        for (int way = 0; way < 3; way++) {
            goes("abcd a>b1+4 b>c9 b>d1+1", way, 0, 2);
        }
        goes("abcd a>b1+4=x b>c1=x b>d1+9", 0, 0, 2);
        goes("abcd a>b1+4=x b>c1=x b>d1+9", 1, 0, 2);
        goes("abcd a>b1+4=x b>c1=x b>d1+9", 2, 0, 1);
        goes("abcde a>b1+4=x b>c1 b>d1=x b>e1+9=x", 2, 0, 2);
        goes("abcd a>b1+4 b>c1=x b>d1+9", 2, 0, 2);
        goes("abcd a>b1+4=y b>c1=x b>d1+9", 2, 0, 2);
    }

    /** Terms II: "of like ones the first. The MAIN IN goes on in the MAIN OUT." */
    private static void likeOnes() {
        for (int way = 0; way < 3; way++) {
            String told = "abcd a>c1 b>c1 c>d1 c>d1";
            goes(told, way, 0, 2);
            goes(told, way, 1, -1);
            goes(told, way, 2, -1);
            DUE.due("comes from", Due.rivers(told).goes(2, way, 1), 0);
            DUE.due("comes from none", Due.rivers(told).goes(3, way, 1), -1);
        }
    }

    /** Terms II: "STEMS are REACHES that go on in one another." */
    private static void stems() {
        RiverRanks x = Due.rivers("abcde c>d1 b>c1+1 a>b1 e>c1");
        // a to b, b to c, c to d go on in one another; e to c ends at c.
        int[] due = {2, 1, 0};
        for (int r = 0; r < 3; r++) {
            DUE.due("how many with " + r, x.stem(r, 0, -1), 3);
            for (int k = 0; k < 3; k++) {
                DUE.due("stem of " + r + " at " + k, x.stem(r, 0, k), due[k]);
            }
        }
        DUE.due("a stem of one", x.stem(3, 0, -1), 1);
        DUE.due("a stem of one", x.stem(3, 0, 0), 3);
        DUE.due("stems", x.stems(0, 0), 2);
    }

    /**
     * Terms II: "2 BRANCH: of a STEM whose lowest FOOT is a MOUTH 1; else 1 more than the least BRANCH of
     * REACHES that run from there."
     */
    private static void branch() {
        ranks("abcdef a>c1+9 f>b1+1 b>c1 d>b1 c>e1", 2, 0, 1, 2, 2, 3, 1);
        // c to e is the main out of c and ends at e; c to d comes to a mouth; b to c ends at c.
        ranks("abcdegh a>c1+9 b>c1 c>e1+9 c>d1 g>e1+50 e>h1", 2, 0, 2, 2, 2, 1, 1, 1);
    }

    /** Terms II: "3 CROWN: the greatest MET of its STEM." */
    private static void crown() {
        ranks("abcd a>c1+5 b>c1 c>d1", 3, 0, 2, 1, 2);
        ranks("abcd a>c1+5 b>c2 c>d1", 3, 1, 1, 2, 2);
    }

    /**
     * Terms II: "A PLACE PARTS, if two REACHES run from it; a BRAID is one that parts and the first PLACE
     * that all ways from it to MOUTHS come through, the nearest (there is none, if there is no such PLACE)."
     */
    private static void partings() {
        RiverRanks x = Due.rivers("abcdef a>b1 a>c1 b>d1 c>d1 d>e1 e>f1 e>f1");
        int[] due = {3, -1, -1, -1, 5, -1};
        for (int p = 0; p < 6; p++) {
            DUE.due("braid of " + p, x.braid(p), due[p]);
        }
        DUE.due("part", x.has(5), 2);
        DUE.due("two mouths", Due.rivers("abc a>b1 a>c1").braid(0), -1);
        DUE.due("one way leads elsewhere", Due.rivers("abcde a>b1 a>c1 b>d1 c>d1 b>e1").braid(0), -1);
        DUE.due("a way past d", Due.rivers("abcde a>b1 a>c1 b>d1 c>d1 c>e1 d>e1").braid(0), 4);
    }

    // ---- ACTS

    private static void acts() {
        comesAndGoes();
        isCut();
        isTurned();
        yieldsAndIsCalled();
        bySeed();
        lastTwenty();
    }

    /**
     * Terms II: "ACTS: a REACH comes (the last number, not called); one goes (those behind have numbers 1
     * less);"
     */
    private static void comesAndGoes() {
        RiverRanks x = Due.rivers("abcd a>b1 b>c2=x");
        DUE.due("comes", x.add(2, 3, 3, 4), 2);
        reach(x, 2, 2, 3, 3, 4, -1);
        DUE.due("goes", x.drop(0), true);
        DUE.due("reaches", x.has(1), 2);
        DUE.due("places", x.has(0), 4);
        reach(x, 0, 1, 2, 2, 0, 0);
        reach(x, 1, 2, 3, 3, 4, -1);
    }

    /**
     * Terms II: "one is CUT at n of its LENGTH: a new PLACE (without a NAME, the last number) lies there, the
     * REACH runs to it from then on, n long, a new one (the last number) from it to where it ran, as long as
     * what is left, called alike, of YIELD 0;"
     */
    private static void isCut() {
        RiverRanks x = Due.rivers("abc a>b9+5=x b>c1");
        DUE.due("the new place", x.cut(0, 4), 3);
        reach(x, 0, 0, 3, 4, 5, 0);
        reach(x, 1, 1, 2, 1, 0, -1);
        reach(x, 2, 3, 1, 5, 0, 0);
        DUE.due("without a name", x.letter(0, 3, 0), 0);
    }

    /** Terms II: "one is TURNED, its FOOT is its HEAD, if that closes no ring;" */
    private static void isTurned() {
        RiverRanks x = Due.rivers("abc a>b4+5=x b>c1 a>c1");
        DUE.due("a to c", x.turn(2), false);
        reach(x, 2, 0, 2, 1, 0, -1);
        DUE.due("a to b", x.turn(0), true);
        reach(x, 0, 1, 0, 4, 5, 0);
    }

    /**
     * Terms II: "one has another YIELD (0 .. 99); is called as a RIVER that there is, or not any more;"
     */
    private static void yieldsAndIsCalled() {
        RiverRanks x = Due.rivers("ab a>b4+5=x a>b4=y");
        DUE.due("another yield", x.gives(0, 99), true);
        DUE.due("called", x.call(0, 1), true);
        reach(x, 0, 0, 1, 4, 99, 1);
        DUE.due("not any more", x.call(0, -1), true);
        DUE.due("no yield", x.gives(0, 0), true);
        reach(x, 0, 0, 1, 4, 0, -1);
        DUE.due("no such river", x.call(0, 2), false);
        DUE.due("no such yield", x.gives(0, 100), false);
    }

    private static RiverRanks seeded(String told, int seed, int n, int reaches) {
        RiverRanks x = Due.rivers(told);
        DUE.due("seed", x.seed(seed), true);
        DUE.due("reaches of " + told + " by seed " + seed, x.chance(n), reaches);
        return x;
    }

    /**
     * Terms II: "by the seed n times: a DRAW of 4, a DRAW of the REACHES: 0 it is TURNED, if it can be; 1 a
     * DRAW of 100 is its YIELD; 2 it is CUT in its middle (LENGTH / 2), if it can be; 3 a DRAW of the
     * PLACES, one from its FOOT to that, LENGTH 10, YIELD 0, comes, if it can be." and "A DRAW of m: x (the
     * seed) becomes (1103515245 x + 12345) mod 2 to the 31; floor(x / 64) mod m."
     */
    private static void bySeed() {
        // From 0 on x is 12345, 1406932606, ..: 0 of 4, then 1 of 2.
        reach(seeded("ab a>b9", 0, 1, 1), 0, 1, 0, 9);
        reach(seeded("abc a>b9 a>c9", 0, 1, 2), 1, 2, 0, 9);
        DUE.due("can't be turned", seeded("ab a>b9 a>b9", 0, 1, 2).reach(1, 0), 0);
        // From 5 on x is 1222621274, 554244747, 695785320: 1 of 4, then 45 of 100.
        reach(seeded("ab a>b9", 5, 1, 1), 0, 0, 1, 9, 45);
        // From 1 on x is 1103527590, ..: 2 of 4.
        RiverRanks cut = seeded("ab a>b9+7", 1, 1, 2);
        reach(cut, 0, 0, 2, 4, 7);
        reach(cut, 1, 2, 1, 5, 0);
        DUE.due("too short to be cut", seeded("ab a>b1", 1, 1, 1).has(0), 2);
        // From 4 on x is 119106029, 1583775778, 687545011: 3 of 4, then place 1 of 3, place 0 of 2.
        reach(seeded("acb a>b9", 4, 1, 2), 1, 2, 1, 10, 0, -1);
        seeded("ab a>b9", 4, 1, 1);
        seeded("abc a>b9", 4, 1, 1);
        // From 1 on, twice: 2 of 4, 0 of 1, then 2 of 4, 0 of 2: it is cut again.
        RiverRanks twice = seeded("ab a>b9", 1, 2, 3);
        reach(twice, 0, 0, 3, 2);
        reach(twice, 1, 2, 1, 5);
        reach(twice, 2, 3, 2, 2);
        DUE.due("one act", twice.has(6), 1);
    }

    /** Terms II: "The last 20 can be undone." */
    private static void lastTwenty() {
        RiverRanks x = Due.rivers("ab a>b1");
        for (int gift = 1; gift <= 25; gift++) {
            x.gives(0, gift);
        }
        for (int gift = 24; gift >= 5; gift--) {
            DUE.due("undo to " + gift, x.undo(), true);
            DUE.due("yield", x.reach(0, 3), gift);
        }
        DUE.due("no more", x.undo(), false);
        DUE.due("yield", x.reach(0, 3), 5);
    }

    // ---- III

    private static void watersAndWays() {
        waters();
        ways();
        streams();
        torn();
        cutOff();
    }

    /**
     * Terms III: "WATERS of two PLACES meet at the PLACE that is DOWN of both (or one of them, DOWN of the
     * other; one with itself at itself), from which no other such one is UP; if there are more, the first."
     */
    private static void waters() {
        RiverRanks x = Due.rivers("abcdef a>c1 b>c1 c>d1 b>d1");
        DUE.due("a and b at c, not at d", x.waters(0, 1), 2);
        DUE.due("a and d at d", x.waters(0, 3), 3);
        DUE.due("d and a at d", x.waters(3, 0), 3);
        DUE.due("b with itself", x.waters(1, 1), 1);
        DUE.due("e with itself", x.waters(4, 4), 4);
        DUE.due("a and e nowhere", x.waters(0, 4), -1);
        RiverRanks two = Due.rivers("abcd a>d1 b>d1 a>c1 b>c1");
        DUE.due("at c and at d", two.waters(0, 1), 2);
    }

    /** Terms III: "WAYS down from a PLACE to another one are rows of REACHES." */
    private static void ways() {
        RiverRanks x = Due.rivers("abc a>b2 a>b3 b>c4 b>c5 b>c6 a>c1");
        DUE.due("a to b", x.ways(0, 1), 2);
        DUE.due("a to c", x.ways(0, 2), 7);
        DUE.due("the shortest", x.far(0, 2, 0), 1);
        DUE.due("the longest", x.far(0, 2, 1), 9);
        DUE.due("not up", x.ways(2, 0), 0);
    }

    /**
     * Terms III: "A STREAM of a rank MET are REACHES of it that hang together, foot by head (one that runs
     * to a HEAD, and one that runs from it)."
     */
    private static void streams() {
        // Of rank 1: a to b to c, d to c; of rank 2: c to e, c to f, which only have their head in common.
        RiverRanks x = Due.rivers("abcdefg a>b1 b>c2 d>c4 c>e8 c>f16 e>g32");
        DUE.due("streams of 1", x.streams(1, 0), 2);
        DUE.due("reaches of 1", x.streams(1, 1), 3);
        DUE.due("length of 1", x.streams(1, 2), 7);
        DUE.due("streams of 2", x.streams(2, 0), 2);
        DUE.due("reaches of 2", x.streams(2, 1), 3);
        DUE.due("length of 2", x.streams(2, 2), 56);
        // They hang together by the reach that runs from where they meet again.
        DUE.due("one stream", Due.rivers("abcde a>b1 a>c1 b>d1 c>d1 d>e1").streams(1, 0), 1);
    }

    private static void torn(String told, int due) {
        DUE.due("torn: " + told, Due.rivers(told).river(0, 2), due);
    }

    /**
     * Terms III: "A RIVER is TORN, if its REACHES are not all in one row, each running to the HEAD of the
     * next one."
     */
    private static void torn() {
        torn("abcd c>d1=x a>b1=x b>c1=x", 0);
        torn("abcd a>b1=x b>c1 c>d1=x", 1);
        torn("abc a>b1=x a>c1=x", 1);
        torn("abc a>c1=x b>c1=x", 1);
        torn("ab a>b1=x a>b1=x", 1);
        torn("abcd a>b1=x b>c1=x b>d1=x", 1);
        torn("abcd a>b1=x", 0);
    }

    /** Terms III: "A PLACE is CUT OFF by REACHES without which there is no WAY to it from any SOURCE." */
    private static void cutOff() {
        RiverRanks x = Due.rivers("abcdef a>c1 b>c1 c>d1 d>e1 d>e1");
        int[] due = {-1, -1, 2, 1, 1, 0};
        for (int p = 0; p < 6; p++) {
            DUE.due("fewest of " + p, x.fewest(p), due[p]);
        }
        RiverRanks crossed = Due.rivers("abcdef a>b1 a>c1 b>d1 b>e1 c>d1 d>f1 e>f1 c>e1");
        DUE.due("by both from a", crossed.fewest(5), 2);
    }

    private static void wavesAndLosses() {
        waves();
        losses();
    }

    /**
     * Terms III: "A WAVE begins at hour 0 at each SOURCE (each that is one), takes LENGTH hours for a REACH,
     * goes on by the MAIN OUT (WAY 0) of each PLACE."
     */
    private static void waves() {
        RiverRanks x = Due.rivers("abcdefg a>d4+5 b>d4 c>d7 d>e2 d>f3+9");
        int[][] due = {{1, 0, 0, 1}, {1, 0, 0, 1}, {1, 0, 0, 1}, {2, 4, 7, 3}, {-1, -1, -1, 0}, {2, 7, 10, 3},
            {-1, -1, -1, 0}};
        for (int p = 0; p < due.length; p++) {
            for (int what = 0; what < 4; what++) {
                DUE.due("wave at " + p + " what " + what, x.wave(p, what), due[p][what]);
            }
        }
    }

    /**
     * Terms III: "LOSS of a REACH: how much less comes to all MOUTHS there are now (FLOW of REACHES that run
     * there), if it goes."
     */
    private static void losses() {
        RiverRanks x = Due.rivers("abcde a>c1+10 b>c1+4 c>d1+1 c>e1");
        int[] due = {10, 4, 1, 0};
        for (int r = 0; r < 4; r++) {
            DUE.due("loss of " + r, x.loss(r), due[r]);
        }
        // Without b to c what comes to b stays there, which is no mouth now.
        RiverRanks chain = Due.rivers("abc a>b1+6 b>c1+3");
        DUE.due("all of it", chain.loss(1), 9);
        DUE.due("the upper one", chain.loss(0), 6);
    }

    private static void dyeAndImages() {
        fits();
        telling();
        images();
    }

    /**
     * Terms III: "SEEN are rows of a REACH, whether DYE was in it: FITS are PLACES so that by DYE at one just
     * those REACHES that were told yes of those told have their HEAD there, or DOWN of it."
     */
    private static void fits() {
        RiverRanks x = Due.rivers("abcde a>c1 b>c1 c>d1 c>e1");
        Due.tape(x, 2, 1);
        DUE.due("rows", x.see(), 1);
        DUE.due("dye in c to d", x.fits(), Due.bits(0, 1, 2));
        Due.tape(x, 2, 1, 0, 0);
        DUE.due("rows", x.see(), 2);
        DUE.due("none in a to c", x.fits(), Due.bits(1, 2));
        Due.tape(x, 2, 0);
        x.see();
        DUE.due("none in c to d", x.fits(), Due.bits(3, 4));
        Due.tape(x, 0, 1, 1, 1);
        x.see();
        DUE.due("in both above", x.fits(), 0);
    }

    /** Terms III: "TELLING is the REACH by whose having DYE the most FITS left are fewest; of like ones the first." */
    private static void telling() {
        // c to d is dyed from a, b, c alike; a to c and b to c from one of these each.
        RiverRanks x = Due.rivers("abcde c>d1 a>c1 b>c1 c>e1");
        Due.tape(x, 0, 1);
        x.see();
        DUE.due("a to c", x.tells(0), 1);
        DUE.due("b and c are left at the most", x.tells(1), 2);
    }

    /**
     * Terms III: "AN IMAGE: how many PLACES, REACHES, for each of these HEAD, FOOT, LENGTH, YIELD, RIVER
     * (255: not called); last a byte: all ahead from 191 on, c = (3 c + it) mod 251."
     */
    private static void images() {
        RiverRanks x = Due.rivers("abc a>b5+6=x b>c7");
        int[] due = {3, 2, 0, 1, 5, 6, 0, 1, 2, 7, 0, 255, 0};
        int c = 191;
        for (int k = 0; k < 12; k++) {
            c = (3 * c + due[k]) % 251;
        }
        due[12] = c;
        DUE.due("bytes", x.image(), 13);
        for (int k = 0; k < 13; k++) {
            DUE.due("byte " + k, x.octet(k), due[k]);
        }
    }
}
