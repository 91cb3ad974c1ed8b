/** The bounds that the document names of a net's text, of the tape, of faults and of names. */
final class TextBoundsTest {
    private static final Due DUE = new Due();
    private static final Bounds BOUNDS = new Bounds(DUE);
    private static final String TWO = "places a,b;";
    private static final String REACH = TWO + "reach a to b long ";
    private static final String[] OWN = {"places", "reach", "to", "long", "yields", "called"};

    public static void main(String[] args) {
        statementsAndPlaces();
        reachesAndRivers();
        names();
        numbers();
        blanks();
        faults();
        tape();
        netStaysOrGoes();
        faultAsked();
        letters();
        DUE.close("TextBoundsTest");
    }

    private static void statementsAndPlaces() {
        noStatement();
        placesFirstAndThatAlone();
        oneToTwentyPlaces();
        twentyFirstName();
        twentyFirstNameAtTheEnd();
    }

    /** Promise 4: "one without a STATEMENT has FAULT 1 at its length". */
    private static void noStatement() {
        BOUNDS.fault("", 1, 0);
        BOUNDS.fault(" ", 1, 1);
        BOUNDS.fault("\n", 1, 1);
        BOUNDS.fault(" \n \n ", 1, 5);
        BOUNDS.fault(" ".repeat(1600), 1, 1600);
        BOUNDS.fine("places a;", 1);
    }

    /** Terms I: "places NAME { , NAME } (first, and that alone ..)". */
    private static void placesFirstAndThatAlone() {
        BOUNDS.fault("reach a to b long 1;", 1, 0);
        BOUNDS.fault("reach a to b long 1;places a,b;", 1, 0);
        BOUNDS.fault("places a;places b;", 1, 9);
        BOUNDS.fault(REACH + "1; places c;", 1, 32);
        BOUNDS.fault("a;", 1, 0);
        BOUNDS.fault(";places a;", 1, 0);
        BOUNDS.fault("places a;;", 1, 9);
        BOUNDS.fault("places a;b;", 1, 9);
    }

    private static String row(int many) {
        StringBuilder text = new StringBuilder("places ");
        for (int i = 0; i < many; i++) {
            text.append(i == 0 ? "" : ",").append('p').append((char) ('a' + i));
        }
        return text.toString();
    }

    /** Terms I: "1 to 20" PLACES. */
    private static void oneToTwentyPlaces() {
        BOUNDS.fault("places;", 1, 6);
        BOUNDS.fault("places ;", 1, 7);
        BOUNDS.fault("places ,a;", 1, 7);
        BOUNDS.fault("places a,;", 1, 9);
        DUE.due("places", BOUNDS.fine(row(1) + ";", 1).has(0), 1);
        DUE.due("places", BOUNDS.fine(row(19) + ";", 1).has(0), 19);
        DUE.due("places", BOUNDS.fine(row(20) + ";", 1).has(0), 20);
        BOUNDS.fault(row(21) + ";", 5, row(20).length() + 1);
        BOUNDS.fault(row(22) + ";", 5, row(20).length() + 1);
    }

    /** Terms I: "a 21st NAME of a row (at the first byte behind the comma that is no blank, whatever it is". */
    private static void twentyFirstName() {
        String twenty = row(20);
        int at = twenty.length() + 1;
        String[] whatever = {"q;", "pa;", "to;", "places", "abcdefg;", "7;", ",;", ";", "!", "Q", "\t", "\r",
            "" + (char) 0, "" + (char) 127, "" + (char) 128, "" + (char) 255};
        for (String what : whatever) {
            BOUNDS.fault(twenty + "," + what, 5, at);
            BOUNDS.fault(twenty + " , \n" + what, 5, at + 3);
        }
        // A fault of the 20th name stands ahead of it.
        BOUNDS.fault(row(19) + ",pa,pz;", 3, row(19).length() + 1);
        BOUNDS.fault(row(19) + ",abcdefg,pz;", 1, row(19).length() + 7);
        BOUNDS.fault(row(20) + " pz;", 1, row(20).length() + 1);
    }

    /** Terms I: "but 1 at the text's end". */
    private static void twentyFirstNameAtTheEnd() {
        String twenty = row(20);
        BOUNDS.fault(twenty, 1, twenty.length());
        BOUNDS.fault(twenty + ",", 1, twenty.length() + 1);
        BOUNDS.fault(twenty + ", ", 1, twenty.length() + 2);
        BOUNDS.fault(twenty + ",\n \n", 1, twenty.length() + 4);
    }

    private static void reachesAndRivers() {
        thirtyReaches();
        tenRivers();
        numberedAsTold();
        unlikePlaces();
        rings();
    }

    private static String reaches(int many) {
        return TWO + "reach a to b long 9;".repeat(many);
    }

    /** Terms I: "30 at most"; FAULT 5: "a 31st reach", "at its first byte". */
    private static void thirtyReaches() {
        BOUNDS.fine(reaches(0), 1);
        BOUNDS.fine(reaches(1), 2);
        BOUNDS.fine(reaches(29), 30);
        BOUNDS.fine(reaches(30), 31);
        BOUNDS.fine(reaches(30) + " \n ", 31);
        int at = reaches(30).length();
        BOUNDS.fault(reaches(31), 5, at);
        BOUNDS.fault(reaches(30) + " \nreach", 5, at + 2);
        BOUNDS.fault(reaches(30) + "reach z", 5, at);
        BOUNDS.fault(reaches(30) + "reach;", 5, at);
        // Where no reach begins, there is no 31st one.
        BOUNDS.fault(reaches(30) + "reac", 1, at);
        BOUNDS.fault(reaches(30) + "reachs", 1, at);
        BOUNDS.fault(reaches(30) + "places c;", 1, at);
        BOUNDS.fault(reaches(30) + ";", 1, at);
        BOUNDS.fault(reaches(29) + "reach z", 3, reaches(29).length() + 6);
    }

    private static String rivers(int many) {
        StringBuilder text = new StringBuilder(TWO);
        for (int i = 0; i < many; i++) {
            text.append("reach a to b long 9 called w").append((char) ('a' + i)).append(';');
        }
        return text.toString();
    }

    /** Terms I: RIVERS "(10 at most)"; FAULT 5: "an 11th RIVER". */
    private static void tenRivers() {
        String more = "reach a to b long 9 called ";
        DUE.due("rivers", BOUNDS.fine(rivers(0), 1).has(2), 0);
        DUE.due("rivers", BOUNDS.fine(rivers(1), 2).has(2), 1);
        DUE.due("rivers", BOUNDS.fine(rivers(9), 10).has(2), 9);
        DUE.due("rivers", BOUNDS.fine(rivers(10), 11).has(2), 10);
        int at = rivers(10).length() + more.length();
        BOUNDS.fault(rivers(11), 5, at);
        BOUNDS.fault(rivers(10) + more + " \nwk", 5, at + 2);
        BOUNDS.fault(rivers(10) + more + "wk!", 5, at);
        BOUNDS.fault(rivers(10) + more + "a;", 5, at);
        BOUNDS.fault(rivers(10) + more + "to;", 1, at);
        BOUNDS.fault(rivers(10) + more + ";", 1, at);
        BOUNDS.fault(rivers(10) + more, 1, at);
        // One that there is already is no 11th.
        RiverRanks x = BOUNDS.fine(rivers(10) + more + "wj;" + more + "wa;", 13);
        DUE.due("rivers", x.has(2), 10);
        DUE.due("the last one", x.reach(10, 4), 9);
        DUE.due("the first one", x.reach(11, 4), 0);
    }

    /** Terms I: "PLACES, REACHES are numbered from 0 on as told, RIVERS as they are called first". */
    private static void numberedAsTold() {
        RiverRanks x = BOUNDS.fine("places c,a,b;reach a to c long 3 called z;reach c to b long 2;"
            + "reach a to b long 1 called y;reach c to b long 4 called z;", 5);
        DUE.due("place 0", x.letter(0, 0, 0), 3);
        DUE.due("place 2", x.letter(0, 2, 0), 2);
        DUE.due("head of 0", x.reach(0, 0), 1);
        DUE.due("foot of 0", x.reach(0, 1), 0);
        DUE.due("length of 3", x.reach(3, 2), 4);
        DUE.due("river 0", x.letter(1, 0, 0), 26);
        DUE.due("river 1", x.letter(1, 1, 0), 25);
        DUE.due("river of 1", x.reach(1, 4), -1);
        DUE.due("river of 2", x.reach(2, 4), 1);
        DUE.due("river of 3", x.reach(3, 4), 0);
    }

    /** Terms I: reach of "PLACES, unlike"; FAULT 4: "a second PLACE of a reach that is the first one". */
    private static void unlikePlaces() {
        BOUNDS.fault(TWO + "reach a to a long 1;", 4, 22);
        BOUNDS.fault(TWO + "reach b to \n b", 4, 24);
        BOUNDS.fault("places a;reach a to a long 1;", 4, 20);
        BOUNDS.fine("places a,aa;reach a to aa long 1;", 2);
    }

    /** FAULT 4: "or from which one comes down to that, at it"; terms II: "No REACH may close a ring". */
    private static void rings() {
        BOUNDS.fault(REACH + "1;reach b to a long 1;", 4, 42);
        BOUNDS.fine(REACH + "1;reach a to b long 1;", 3);
        StringBuilder chain = new StringBuilder(row(20) + ";");
        for (int i = 19; i > 0; i--) {
            chain.append("reach p").append((char) ('a' + i)).append(" to p").append((char) ('a' + i - 1)).append(" long 1;");
        }
        BOUNDS.fine(chain + "reach pt to pa long 1;", 21);
        BOUNDS.fault(chain + "reach pa to pt long 1;", 4, chain.length() + 12);
        BOUNDS.fault(chain + "reach pi to pj long 1;", 4, chain.length() + 12);
        BOUNDS.fine(chain + "reach pj to pi long 1;", 21);
    }

    private static void names() {
        oneToSixLetters();
        lettersAlone();
        noOwnWord();
        placesAllUnlike();
        noPlace();
    }

    /** Terms I: "NAMES: 1 to 6 letters"; FAULT 1: "a 7th letter at itself". */
    private static void oneToSixLetters() {
        BOUNDS.fine("places a,abcdef;reach a to abcdef long 1 called a;reach a to abcdef long 1 called abcdef;", 3);
        BOUNDS.fault("places abcdefg;", 1, 13);
        BOUNDS.fault("places abcdefghij;", 1, 13);
        BOUNDS.fault("places a, abcdefg;", 1, 16);
        BOUNDS.fault("places abcdef;reach abcdefg to abcdef long 1;", 1, 26);
        BOUNDS.fault(TWO + "reach a to abcdefg long 1;", 1, 28);
        BOUNDS.fault(REACH + "1 called abcdefg;", 1, 44);
        BOUNDS.fault(REACH + "1 called ;", 1, 38);
        BOUNDS.fault(TWO + "reach to b long 1;", 1, 17);
        BOUNDS.fault(TWO + "reach a to long 1;", 1, 22);
    }

    /** Letters are a to z: letter() answers 1 .. 26. */
    private static void lettersAlone() {
        BOUNDS.fine("places a,z;reach a to z long 1 called az;", 2);
        for (char other : new char[] {'`', '{', 'A', 'Z', '@', '[', '0', '9', '_', '-', (char) 225}) {
            BOUNDS.fault("places " + other + ";", 1, 7);
            BOUNDS.fault("places a" + other + ";", 1, 8);
            BOUNDS.fault(TWO + "reach " + other, 1, 17);
            BOUNDS.fault(TWO + "reach a to " + other, 1, 22);
            BOUNDS.fault(REACH + "1 called " + other, 1, 38);
        }
    }

    /** Terms I: "no OWN WORD"; FAULT 1: "where a NAME is asked, an OWN WORD so". */
    private static void noOwnWord() {
        for (String own : OWN) {
            BOUNDS.fault("places " + own + ";", 1, 7);
            BOUNDS.fault("places a, " + own, 1, 10);
            BOUNDS.fault(TWO + "reach " + own + " to b long 1;", 1, 17);
            BOUNDS.fault(TWO + "reach a to " + own + " long 1;", 1, 22);
            BOUNDS.fault(REACH + "1 called " + own + ";", 1, 38);
            // A letter less, one more or another one is a name.
            String less = own.substring(0, own.length() - 1);
            String other = less + "q";
            BOUNDS.fine("places " + less + "," + other + ";reach " + less + " to " + other + " long 1 called " + less + ";", 2);
            if (own.length() < 6) {
                BOUNDS.fine("places " + own + "s;", 1);
            } else {
                BOUNDS.fault("places " + own + "s;", 1, 13);
            }
        }
    }

    /** Terms I: "PLACES all unlike"; FAULT 3: "a NAME that is there already". */
    private static void placesAllUnlike() {
        BOUNDS.fault("places a,a;", 3, 9);
        BOUNDS.fault("places a,b,\n b;", 3, 13);
        BOUNDS.fault("places abcdef,abcdeg,abcdef", 3, 21);
        BOUNDS.fault(row(19) + ",pa;", 3, row(19).length() + 1);
        BOUNDS.fine("places abcdef,abcdeg,bbcdef,abcde,a,aa;", 1);
        // Rivers are no places.
        BOUNDS.fine(REACH + "1 called a;reach a to b long 1 called b;", 3);
    }

    /** FAULT 3: "one that is no PLACE, at it". */
    private static void noPlace() {
        BOUNDS.fault(TWO + "reach c to b long 1;", 3, 17);
        BOUNDS.fault(TWO + "reach  c", 3, 18);
        BOUNDS.fault(TWO + "reach a to c long 1;", 3, 22);
        BOUNDS.fault(TWO + "reach a to\n\naa long 1;", 3, 23);
        // A river's name is no place's, nor is one of the net that stands.
        BOUNDS.fault(REACH + "1 called c;reach c to b long 1;", 3, 46);
        BOUNDS.fault("places a,b;reach a to d long 1;", 3, 22);
    }

    private static void numbers() {
        oneOrTwoDigits();
        lengths();
        yields();
    }

    /** Terms I: "NUMBERS: 1 or 2 digits"; FAULT 1: "a 3rd digit at itself". */
    private static void oneOrTwoDigits() {
        BOUNDS.fault(REACH + ";", 1, 29);
        BOUNDS.fault(REACH + "yields 1;", 1, 29);
        BOUNDS.fault(REACH + "1 yields ;", 1, 38);
        BOUNDS.fault(REACH + "1 yields called x;", 1, 38);
        DUE.due("9", BOUNDS.fine(REACH + "9;", 2).reach(0, 2), 9);
        DUE.due("09", BOUNDS.fine(REACH + "09;", 2).reach(0, 2), 9);
        DUE.due("10", BOUNDS.fine(REACH + "10;", 2).reach(0, 2), 10);
        for (String three : new String[] {"100", "001", "000", "999", "1000"}) {
            BOUNDS.fault(REACH + three + ";", 1, 31);
            BOUNDS.fault(REACH + "1 yields " + three + ";", 1, 40);
        }
        for (char other : new char[] {'/', ':', '-', '+', 'a'}) {
            BOUNDS.fault(REACH + other, 1, 29);
            BOUNDS.fault(REACH + "1" + other, 1, 30);
            BOUNDS.fault(REACH + "1 yields " + other, 1, 38);
            BOUNDS.fault(REACH + "1 yields 1" + other, 1, 39);
        }
    }

    /** Terms I: "LENGTH 1 .. 99"; FAULT 2: "a number that can't be, at it". */
    private static void lengths() {
        BOUNDS.fault(REACH + "0;", 2, 29);
        BOUNDS.fault(REACH + "00;", 2, 29);
        BOUNDS.fault(REACH + " \n0;", 2, 31);
        BOUNDS.fault(REACH + "0", 2, 29);
        BOUNDS.fault(REACH + "0!", 2, 29);
        DUE.due("1", BOUNDS.fine(REACH + "1;", 2).reach(0, 2), 1);
        DUE.due("01", BOUNDS.fine(REACH + "01;", 2).reach(0, 2), 1);
        DUE.due("99", BOUNDS.fine(REACH + "99;", 2).reach(0, 2), 99);
        BOUNDS.fault(REACH + "100;", 1, 31);
    }

    /** Terms I: "YIELD 0 .. 99, 0 without". */
    private static void yields() {
        DUE.due("without", BOUNDS.fine(REACH + "1;", 2).reach(0, 3), 0);
        DUE.due("without, called", BOUNDS.fine(REACH + "1 called x;", 2).reach(0, 3), 0);
        DUE.due("0", BOUNDS.fine(REACH + "1 yields 0;", 2).reach(0, 3), 0);
        DUE.due("00", BOUNDS.fine(REACH + "1 yields 00;", 2).reach(0, 3), 0);
        DUE.due("1", BOUNDS.fine(REACH + "1 yields 1;", 2).reach(0, 3), 1);
        DUE.due("99", BOUNDS.fine(REACH + "1 yields 99 called x;", 2).reach(0, 3), 99);
        BOUNDS.fault(REACH + "1 yields 100;", 1, 40);
        // Both may be missing, but not in another order, nor twice.
        BOUNDS.fault(REACH + "1 called x yields 1;", 1, 40);
        BOUNDS.fault(REACH + "1 yields 1 yields 1;", 1, 40);
        BOUNDS.fault(REACH + "1 called x called x;", 1, 40);
    }

    private static void blanks() {
        blanksAreTwo();
        whereOneLikes();
        needed();
    }

    /** Terms I: "Blanks (10, 32)": no other byte is one. */
    private static void blanksAreTwo() {
        for (int b = 0; b < 256; b++) {
            String text = "places a" + (char) b + ";";
            if (b == 10 || b == 32 || b >= 'a' && b <= 'z') {
                BOUNDS.fine(text, 1);
            } else {
                BOUNDS.fault(text, 1, b == ';' || b == ',' ? 9 : 8);
            }
            if (b != 10 && b != 32 && b != 'p') {
                BOUNDS.fault((char) b + "places a;", 1, 0);
            }
        }
    }

    /** Terms I: "Blanks are where one likes". */
    private static void whereOneLikes() {
        String[] parts = {"places", " ", "a", "", ",", "", "b", "", ";", "", "reach", " ", "a", " ", "to", " ", "b", " ",
            "long", " ", "12", " ", "yields", " ", "34", " ", "called", " ", "x", "", ";"};
        BOUNDS.fine(String.join("", parts), 2);
        for (String blank : new String[] {" ", "\n", "\n \n\n  "}) {
            BOUNDS.fine(blank + String.join("", parts) + blank, 2);
            for (int gap = 1; gap < parts.length; gap += 2) {
                String held = parts[gap];
                parts[gap] = blank;
                RiverRanks x = BOUNDS.fine(String.join("", parts), 2);
                DUE.due("length", x.reach(0, 2), 12);
                DUE.due("yield", x.reach(0, 3), 34);
                parts[gap] = held;
            }
        }
        // Within a word or a number there is none.
        BOUNDS.fault("pla ces a;", 1, 0);
        BOUNDS.fault(REACH + "1 2;", 1, 31);
        BOUNDS.fault("places a b;", 1, 9);
    }

    /** Terms I: "(words and numbers side by side need one)". */
    private static void needed() {
        BOUNDS.fault("placesa;", 1, 0);
        BOUNDS.fault(TWO + "reacha to b long 1;", 1, 11);
        BOUNDS.fault(TWO + "reach ato b long 1;", 3, 17);
        BOUNDS.fault(TWO + "reach a tob long 1;", 1, 19);
        BOUNDS.fault(TWO + "reach a to blong 1;", 3, 22);
        BOUNDS.fault(TWO + "reach a to b long1;", 1, 28);
        BOUNDS.fault(REACH + "1yields 1;", 1, 30);
        BOUNDS.fault(REACH + "12yields 1;", 1, 31);
        BOUNDS.fault(REACH + "1called x;", 1, 30);
        BOUNDS.fault(REACH + "1 yields1;", 1, 37);
        BOUNDS.fault(REACH + "1 yields 1called x;", 1, 39);
        BOUNDS.fault(REACH + "1 calledx;", 1, 31);
    }

    private static void faults() {
        wordsWhole();
        endsTooSoon();
        firstAlongTheText();
    }

    /** FAULT 1: "words and numbers whole, at their first byte". */
    private static void wordsWhole() {
        BOUNDS.fault("place a;", 1, 0);
        BOUNDS.fault("placess a;", 1, 0);
        BOUNDS.fault("\n placesplaces a;", 1, 2);
        BOUNDS.fault(TWO + " rivers a to b long 1;", 1, 12);
        BOUNDS.fault(TWO + "reachreach a to b long 1;", 1, 11);
        BOUNDS.fault(TWO + "reach a too b long 1;", 1, 19);
        BOUNDS.fault(TWO + "reach a t b long 1;", 1, 19);
        BOUNDS.fault(TWO + "reach a 5 b long 1;", 1, 19);
        BOUNDS.fault(TWO + "reach a to b lon 1;", 1, 24);
        BOUNDS.fault(TWO + "reach a to b longer 1;", 1, 24);
        BOUNDS.fault(TWO + "reach a to b 17;", 1, 24);
        BOUNDS.fault(REACH + "1 yield 1;", 1, 31);
        BOUNDS.fault(REACH + "1 yieldss 1;", 1, 31);
        BOUNDS.fault(REACH + "1 call x;", 1, 31);
        BOUNDS.fault(REACH + "1 yields 1 calledd x;", 1, 40);
        BOUNDS.fault(REACH + "1 22;", 1, 31);
        BOUNDS.fault("places 22;", 1, 7);
        BOUNDS.fault(TWO + "reach 22 to b long 1;", 1, 17);
    }

    /** FAULT 1: "at the text's length, if it ends too soon": each length of a text. */
    private static void endsTooSoon() {
        String text = "places ab,c;reach ab to c long 12 yields 34 called xy;";
        String[] own = {"places", "reach", "to", "long", "yields", "called"};
        for (int n = 0; n < text.length(); n++) {
            int at = n;
            for (String word : own) {
                int begins = text.indexOf(word + " ");
                // A word that is cut short is another word, whole, at its first byte.
                if (n > begins && n < begins + word.length()) {
                    at = begins;
                }
            }
            String cut = text.substring(0, n);
            if (cut.endsWith(" a")) {
                if (n > 10) {
                    BOUNDS.fault(cut, 3, n - 1);
                } else {
                    BOUNDS.fault(cut, 1, n);
                }
            } else if (n == 12) {
                BOUNDS.fine(cut, 1);
            } else {
                BOUNDS.fault(cut, 1, at);
            }
        }
        BOUNDS.fine(text, 2);
        BOUNDS.fault(text.substring(0, text.length() - 1) + "  ", 1, text.length() + 1);
    }

    /** "FAULTS, the first along the text". */
    private static void firstAlongTheText() {
        String[] kinds = {"reach a to b length 1;", "reach a to b long 0;", "reach a to z long 1;", "reach a to a long 1;"};
        int[] ats = {13, 18, 11, 11};
        for (int one = 0; one < kinds.length; one++) {
            for (int other = 0; other < kinds.length; other++) {
                BOUNDS.fault(TWO + kinds[one] + kinds[other], one + 1, 11 + ats[one]);
            }
            BOUNDS.fault(reaches(30).substring(0, reaches(29).length()) + kinds[one] + "reach a to b long 1;reach",
                one + 1, reaches(29).length() + ats[one]);
            BOUNDS.fault(reaches(30) + kinds[one], 5, reaches(30).length());
        }
        BOUNDS.fault("places a,a,abcdefg;", 3, 9);
        BOUNDS.fault("places a,abcdefg,a;", 1, 15);
        BOUNDS.fault(TWO + "reach z to a long 0 called to", 3, 17);
        BOUNDS.fault(REACH + "0 yields 100 called abcdefg", 2, 29);
        BOUNDS.fault(REACH + "1 yields 100 called abcdefg", 1, 40);
    }

    private static void tape() {
        feeds();
        ends();
    }

    /** Promise 2: "Twenty bytes come behind those on the tape .. refused (0), if there would be more than 1600". */
    private static void feeds() {
        RiverRanks x = new RiverRanks();
        for (int i = 1; i <= 80; i++) {
            DUE.due("feed " + i, x.feed(0, 0, 0, 0, 0), 20 * i);
        }
        BOUNDS.refused("feed 81", x, Bounds.TAPE, -1, y -> y.feed(0, 0, 0, 0, 0));
        BOUNDS.taken("still 1600", x, 1, y -> Bounds.bool(y.end(1600)));
        for (int left : new int[] {1599, 1590, 1581}) {
            x.end(left);
            BOUNDS.refused("feed behind " + left, x, Bounds.TAPE, -1, y -> y.feed(0, 0, 0, 0, 0));
            BOUNDS.taken("still " + left, x, 1, y -> Bounds.bool(y.end(left)));
        }
        x.end(1580);
        BOUNDS.taken("feed behind 1580", x, 1600, y -> y.feed(0, 0, 0, 0, 0));
        x.end(1579);
        BOUNDS.taken("feed behind 1579", x, 1599, y -> y.feed(0, 0, 0, 0, 0));
        highestFirst();
        fullText();
    }

    /** Promise 2: "of each number the highest first", and bytes above 127. */
    private static void highestFirst() {
        RiverRanks x = Due.rivers("abc a>c1 b>c1");
        x.feed(0x00010202, -1, -1, 0x80808080, 0x7f7f7f7f);
        x.end(2);
        DUE.due("see", x.see(), 1);
        DUE.due("fits", x.fits(), Due.bits(0));
        // Behind an odd length, across two numbers.
        x.feed(0x01010202, 0, 0, 0, 0);
        x.end(1);
        x.feed(0x01000002, 0, 0, 0, 0);
        x.end(4);
        DUE.due("see", x.see(), 2);
        DUE.due("fits", x.fits(), Due.bits(1));
        // 255 is no reach, and not 1 either.
        x.feed(0xff01ff01, 0, 0, 0, 0);
        x.end(2);
        BOUNDS.refused("see", x, Bounds.TOLD, -1, RiverRanks::see);
        x.feed(0x00ff0000, 0, 0, 0, 0);
        x.end(2);
        BOUNDS.refused("see", x, Bounds.TOLD, -1, RiverRanks::see);
    }

    /** A text of all 1600 bytes is read to its end. */
    private static void fullText() {
        String text = reaches(30);
        BOUNDS.fine(text + " ".repeat(1600 - text.length()), 31);
        BOUNDS.fine(" ".repeat(1600 - text.length()) + text, 31);
        BOUNDS.fault(text + " ".repeat(1599 - text.length()) + ";", 1, 1599);
        BOUNDS.fault("places a" + " ".repeat(1592), 1, 1600);
    }

    /** Promise 3: "false, refused (0), if it has not so many, or n is below 0". */
    private static void ends() {
        RiverRanks x = new RiverRanks();
        BOUNDS.taken("end 0 of none", x, 1, y -> Bounds.bool(y.end(0)));
        BOUNDS.refused("end 1 of none", x, Bounds.TAPE, 0, y -> Bounds.bool(y.end(1)));
        x.feed(0, 0, 0, 0, 0);
        BOUNDS.refused("end 21 of 20", x, Bounds.TAPE, 0, y -> Bounds.bool(y.end(21)));
        DUE.due("20 stay", Bounds.onTape(x), 20);
        BOUNDS.refused("end below 0", x, Bounds.TAPE, 0, y -> Bounds.bool(y.end(-1)));
        DUE.due("20 stay", Bounds.onTape(x), 20);
        BOUNDS.refused("end least", x, Bounds.TAPE, 0, y -> Bounds.bool(y.end(Integer.MIN_VALUE)));
        BOUNDS.refused("end most", x, Bounds.TAPE, 0, y -> Bounds.bool(y.end(Integer.MAX_VALUE)));
        DUE.due("20 stay", Bounds.onTape(x), 20);
        BOUNDS.taken("end 20 of 20", x, 1, y -> Bounds.bool(y.end(20)));
        BOUNDS.taken("end 19 of 20", x, 1, y -> Bounds.bool(y.end(19)));
        BOUNDS.refused("end 20 of 19", x, Bounds.TAPE, 0, y -> Bounds.bool(y.end(20)));
        DUE.due("19 stay", Bounds.onTape(x), 19);
        BOUNDS.taken("end 0 of 19", x, 1, y -> Bounds.bool(y.end(0)));
        DUE.due("none stay", Bounds.onTape(x), 0);
        firstBytesAlone();
    }

    /** Promise 3: "The tape has its first n bytes alone". */
    private static void firstBytesAlone() {
        RiverRanks x = new RiverRanks();
        Due.tape(x, "places a;places b;");
        x.end(9);
        DUE.due("net", x.net(), 1);
        Due.tape(x, "places a;");
        x.end(7);
        x.feed('b' << 24 | 'c' << 16 | ';' << 8 | ' ', 0x20202020, 0x20202020, 0x20202020, 0x20202020);
        DUE.due("net", x.net(), 1);
        DUE.due("the name", x.letter(0, 0, 0), 2);
        DUE.due("the name", x.letter(0, 0, 1), 3);
    }

    private static void netStaysOrGoes() {
        seedStays();
        netGoes();
        refusedNetStays();
    }

    /** Promise 4: "the seed stays", with a FAULT and without. */
    private static void seedStays() {
        String told = "abcd a>b8 b>c9 c>d5";
        RiverRanks x = Due.rivers(told);
        x.seed(99);
        Due.net(x, Due.text(told));
        x.chance(20);
        RiverRanks y = Due.rivers(told);
        y.seed(99);
        Due.net(y, "places !");
        y.chance(20);
        RiverRanks z = Due.rivers(told);
        z.seed(99);
        z.chance(20);
        DUE.due("the seed stays by a net", Bounds.whole(x).equals(Bounds.whole(z)), true);
        DUE.due("the seed stays by a fault", Bounds.whole(y).equals(Bounds.whole(z)), true);
    }

    /** Promise 4: "Without one nothing is SEEN or can be undone". */
    private static void netGoes() {
        RiverRanks x = Bounds.standing();
        DUE.due("acts", x.has(6), 3);
        DUE.due("rows", x.has(7), 2);
        int octet = x.octet(0);
        DUE.due("net", Due.net(x, Due.text("ab a>b1")), 2);
        DUE.due("acts", x.has(6), 0);
        DUE.due("rows", x.has(7), 0);
        DUE.due("fits", x.fits(), -1);
        DUE.due("changed", x.changed(0), -1);
        DUE.due("places", x.has(0), 2);
        DUE.due("rivers", x.has(2), 0);
        DUE.due("the latest image", x.octet(0), octet);
        BOUNDS.refused("undo behind a net", x, Bounds.UNDO, 0, y -> Bounds.bool(y.undo()));
    }

    /** Promise 4: "refused (1), with a FAULT (all stays ..)": an act can still be undone. */
    private static void refusedNetStays() {
        RiverRanks x = Bounds.standing();
        Due.tape(x, "places a,b,c,d,e,f;reach a to b long 1 called q;reach a to b long 0;");
        BOUNDS.refused("net", x, Bounds.TOLD, -1, RiverRanks::net);
        DUE.due("fault", x.fault(0), 2);
        BOUNDS.taken("undo", x, 1, y -> Bounds.bool(y.undo()));
        DUE.due("yield", x.reach(1, 3), 4);
    }

    /** Promise 5: "0 without, and ahead of any", "NONE without", "NONE for another what". */
    private static void faultAsked() {
        RiverRanks x = new RiverRanks();
        DUE.due("ahead of any", x.fault(0), 0);
        DUE.due("ahead of any", x.fault(1), -1);
        BOUNDS.none("fault ahead of any", x::fault, -1, 2);
        Due.net(x, "!");
        DUE.due("at 0", x.fault(0), 1);
        DUE.due("at 0", x.fault(1), 0);
        BOUNDS.from(0, 1, "fault", x::fault);
        // Of the latest net() alone: other calls that are refused, and one that is not, leave it.
        x.see();
        x.on();
        x.add(0, 0, 0, 0);
        DUE.due("still", x.fault(0), 1);
        DUE.due("still", x.fault(1), 0);
        Due.net(x, "places a,b,a;");
        DUE.due("another", x.fault(0), 3);
        DUE.due("another", x.fault(1), 11);
        Due.net(x, "places a;");
        DUE.due("without", x.fault(0), 0);
        DUE.due("without", x.fault(1), -1);
        BOUNDS.none("fault without", x::fault, -1, 2);
    }

    private static void letters() {
        letterBounds();
        withoutName();
    }

    /** Promise 7: "Letter k (0 .. 5)", "1 .. 26; 0 behind it", "NONE when there is none such". */
    private static void letterBounds() {
        RiverRanks x = BOUNDS.fine("places a,z,abcxyz;reach a to z long 1 called zyxwva;reach a to z long 1 called z;", 3);
        BOUNDS.from(0, 5, "letter of a place", k -> x.letter(0, 2, k));
        BOUNDS.from(0, 5, "letter of a river", k -> x.letter(1, 1, k));
        BOUNDS.from(0, 2, "letter of places", p -> x.letter(0, p, 0));
        BOUNDS.from(0, 1, "letter of rivers", w -> x.letter(1, w, 0));
        BOUNDS.from(0, 1, "kind of letter", kind -> x.letter(kind, 0, 0));
        int[] six = {1, 2, 3, 24, 25, 26};
        for (int k = 0; k < 6; k++) {
            DUE.due("letter " + k, x.letter(0, 2, k), six[k]);
            DUE.due("letter " + k + " of a", x.letter(0, 0, k), k == 0 ? 1 : 0);
            DUE.due("letter " + k + " of z", x.letter(0, 1, k), k == 0 ? 26 : 0);
            DUE.due("letter " + k + " of the first river", x.letter(1, 0, k), k == 5 ? 1 : 26 - k);
            DUE.due("letter " + k + " of the second river", x.letter(1, 1, k), k == 0 ? 26 : 0);
        }
        RiverRanks full = BOUNDS.fine(row(20) + ";", 1);
        BOUNDS.from(0, 19, "letter of twenty places", p -> full.letter(0, p, 1));
        BOUNDS.none("letter without rivers", w -> full.letter(1, w, 0), -1, 0);
        RiverRanks ten = BOUNDS.fine(rivers(10), 11);
        BOUNDS.from(0, 9, "letter of ten rivers", w -> ten.letter(1, w, 1));
        RiverRanks none = new RiverRanks();
        BOUNDS.none("letter without places", p -> none.letter(0, p, 0), -1, 0);
        BOUNDS.none("letter without rivers", w -> none.letter(1, w, 0), -1, 0);
    }

    /** Promise 7: 0 "of one without a NAME": a place of a cut, and all behind on(). */
    private static void withoutName() {
        RiverRanks x = Due.of("places abcdef,b;reach abcdef to b long 9;");
        x.cut(0, 4);
        BOUNDS.from(0, 5, "letter of a cut", k -> x.letter(0, 2, k));
        BOUNDS.from(0, 2, "letter of places", p -> x.letter(0, p, 0));
        for (int k = 0; k < 6; k++) {
            DUE.due("letter of a cut", x.letter(0, 2, k), 0);
            DUE.due("letter of the first", x.letter(0, 0, k), k + 1);
        }
        int[] bytes = new int[x.image()];
        for (int k = 0; k < bytes.length; k++) {
            bytes[k] = x.octet(k);
        }
        Due.tape(x, bytes);
        DUE.due("on", x.on(), true);
        BOUNDS.from(0, 2, "letter behind on", p -> x.letter(0, p, 0));
        BOUNDS.from(0, 5, "letter behind on", k -> x.letter(0, 0, k));
        for (int p = 0; p < 3; p++) {
            DUE.due("letter behind on", x.letter(0, p, 0), 0);
        }
        DUE.due("letter behind on", x.letter(0, 0, 5), 0);
    }
}
