/** Promises 1 to 5 and 7: a new object, the tape, the net's text, faults, names. */
final class TextTest {
    private static final Due DUE = new Due();
    private static final String TWO = "places a,b;";

    public static void main(String[] args) {
        newObject();
        feedsAndEnds();
        texts();
        placesRow();
        reachFaults();
        sideBySide();
        tooMany();
        faultsStay();
        names();
        bytesThatWere();
        DUE.close("TextTest");
    }

    private static void newObject() {
        RiverRanks x = new RiverRanks();
        for (int what = 0; what <= 9; what++) {
            DUE.due("new has " + what, x.has(what), 0);
        }
        DUE.due("new fault", x.fault(0), 0);
        DUE.due("new fault at", x.fault(1), -1);
        DUE.due("new octet", x.octet(0), -1);
        for (int what = 0; what <= 5; what++) {
            DUE.due("new status " + what, x.status(what), 0);
        }
    }

    private static void feedsAndEnds() {
        RiverRanks x = new RiverRanks();
        for (int i = 1; i <= 80; i++) {
            DUE.due("feed " + i, x.feed(1, 2, 3, 4, 5), 20 * i);
        }
        DUE.due("feed too much", x.feed(1, 2, 3, 4, 5), -1);
        DUE.due("status", x.status(0), 1);
        DUE.due("end 1601", x.end(1601), false);
        DUE.due("end 1600", x.end(1600), true);
        DUE.due("end -1", x.end(-1), false);
        DUE.due("end least", x.end(Integer.MIN_VALUE), false);
        DUE.due("end most", x.end(Integer.MAX_VALUE), false);
        DUE.due("end 1581", x.end(1581), true);
        DUE.due("feed 1601", x.feed(0, 0, 0, 0, 0), -1);
        DUE.due("end 1580", x.end(1580), true);
        DUE.due("feed 1600", x.feed(0, 0, 0, 0, 0), 1600);
        DUE.due("end 0", x.end(0), true);
        DUE.due("end 1", x.end(1), false);
        DUE.due("feed again", x.feed(-1, -1, -1, -1, -1), 20);
        DUE.due("status", x.status(0), 7);
        // The highest byte of each number is the first: an image of one place.
        x.end(0);
        int check = (3 * ((3 * 191 + 1) % 251)) % 251;
        x.feed(1 << 24 | check << 8, 0, 0, 0, 0);
        x.end(3);
        DUE.due("on", x.on(), true);
        // Bytes come behind an odd length.
        Due.tape(x, "pla");
        x.feed('c' << 24 | 'e' << 16 | 's' << 8 | ' ', 'q' << 24 | ';' << 16, 0, 0, 0);
        x.end(9);
        DUE.due("net", x.net(), 1);
        DUE.due("letter", x.letter(0, 0, 0), 17);
    }

    private static void fault(String text, int fault, int at) {
        RiverRanks x = new RiverRanks();
        DUE.due("net: " + text, Due.net(x, text), -1);
        DUE.due("fault of: " + text, x.fault(0), fault);
        DUE.due("fault at of: " + text, x.fault(1), at);
        DUE.due("places of: " + text, x.has(0), 0);
        DUE.due("status of: " + text, x.status(1), 1);
        DUE.due("tape of: " + text, x.feed(0, 0, 0, 0, 0), 20);
    }

    private static void fine(String text, int statements) {
        RiverRanks x = new RiverRanks();
        DUE.due("net: " + text, Due.net(x, text), statements);
        DUE.due("fault of: " + text, x.fault(0), 0);
        DUE.due("fault at of: " + text, x.fault(1), -1);
        DUE.due("tape of: " + text, x.feed(0, 0, 0, 0, 0), 20);
    }

    private static void texts() {
        fine("places a;", 1);
        fine(" \n places\na ;\n ", 1);
        fine("places a,b , c\n,d;reach a to b long 1;", 2);
        fine("places reac,lon,placex;reach reac to lon long 9;", 2);
        fine("places abcdef,z;reach abcdef to z long 99 yields 99 called abcdef;", 2);
        fine(TWO + "reach a to b long 05 yields 00;", 2);
        fine(TWO + "reach a to b long 1 yields 0 called a ;reach\na\nto\nb\nlong\n7\ncalled\nb;", 3);
        fault("", 1, 0);
        fault("\n", 1, 1);
        fault(";", 1, 0);
        fault("reach a to b long 1;", 1, 0);
        fault("  reach", 1, 2);
        fault("Places a;", 1, 0);
        fault("place", 1, 0);
        fault("placesa;", 1, 0);
        fault("\tplaces a;", 1, 0);
        fault((char) 200 + "places a;", 1, 0);
        fault("places a;;", 1, 9);
        fault("places a;reac", 1, 9);
        fault("places a; places b;", 1, 10);
        fault("places a;7", 1, 9);
    }

    private static void placesRow() {
        fault("places", 1, 6);
        fault("places  ", 1, 8);
        fault("places a", 1, 8);
        fault("places a  ", 1, 10);
        fault("places a,", 1, 9);
        fault("places a, ;", 1, 10);
        fault("places ,a;", 1, 7);
        fault("places a b;", 1, 9);
        fault("places a.", 1, 8);
        fault("places A;", 1, 7);
        fault("places aB;", 1, 8);
        fault("places 1;", 1, 7);
        fault("places a1;", 1, 8);
        fault("places1;", 1, 6);
        fault("places abcdefg", 1, 13);
        fault("places placesx;", 1, 13);
        for (String own : new String[] {"places", "reach", "to", "long", "yields", "called"}) {
            fault("places a, " + own + ";", 1, 10);
            fault(TWO + "reach " + own + " to b long 1;", 1, 17);
            fault(TWO + "reach a to " + own + " long 1;", 1, 22);
            fault(TWO + "reach a to b long 1 called " + own + ";", 1, 38);
        }
        fault("places a,b, a;", 3, 12);
        fault("places a,b, a", 3, 12);
        fault("places a,b, a!", 3, 12);
        fine("places a,aa,aaa;", 1);
    }

    private static void reachFaults() {
        fault(TWO + "reach", 1, 16);
        fault(TWO + "reach;", 1, 16);
        fault(TWO + "reach a", 1, 18);
        fault(TWO + "reach c!", 3, 17);
        fault(TWO + "reach abcdefg to b long 1;", 1, 23);
        fault(TWO + "reach a b long 1;", 1, 19);
        fault(TWO + "reach a long b;", 1, 19);
        fault(TWO + "reach a to", 1, 21);
        fault(TWO + "reach a to c long 1;", 3, 22);
        fault(TWO + "reach a to a", 4, 22);
        fault(TWO + "reach a to b", 1, 23);
        fault(TWO + "reach a to b yields 1;", 1, 24);
        fault(TWO + "reach a to b long", 1, 28);
        fault(TWO + "reach a to b long ;", 1, 29);
        fault(TWO + "reach a to b long x;", 1, 29);
        fault(TWO + "reach a to b long -1;", 1, 29);
        fault(TWO + "reach a to b long 00;", 2, 29);
        fault(TWO + "reach a to b long 0 !", 2, 29);
        fault(TWO + "reach a to b long 000;", 1, 31);
        fault(TWO + "reach a to b long 1", 1, 30);
        fault(TWO + "reach a to b long 1 1;", 1, 31);
        fault(TWO + "reach a to b long 1 to 1;", 1, 31);
        fault(TWO + "reach a to b long 1,", 1, 30);
        fault(TWO + "reach a to b long 1 yields;", 1, 37);
        fault(TWO + "reach a to b long 1 yields x;", 1, 38);
        fault(TWO + "reach a to b long 1 yields 123;", 1, 40);
        fault(TWO + "reach a to b long 1 yields 1 yields 1;", 1, 40);
        fault(TWO + "reach a to b long 1 called", 1, 37);
        fault(TWO + "reach a to b long 1 called 1;", 1, 38);
        fault(TWO + "reach a to b long 1 called abcdefg;", 1, 44);
        fault(TWO + "reach a to b long 1 called x", 1, 39);
        fault(TWO + "reach a to b long 1 called x called x;", 1, 40);
        fault("places a,b,c;reach a to b long 1;reach b to c long 1;reach c to a long 1;", 4, 64);
    }

    private static void sideBySide() {
        fault(TWO + "reach a to b long1;", 1, 28);
        fault(TWO + "reach a to b long 1yields 1;", 1, 30);
        fault(TWO + "reach a to b long 12yields 1;", 1, 31);
        fault(TWO + "reach a to b long 0yields 1;", 2, 29);
        fault(TWO + "reach a to b long 1called x;", 1, 30);
        fault(TWO + "reach a to b long 1 yields1;", 1, 37);
        fault(TWO + "reach a to b long 1 yields 1called x;", 1, 39);
        fault(TWO + "reach a tob long 1;", 1, 19);
        fault(TWO + "reacha to b long 1;", 1, 11);
    }

    private static String row(int many) {
        StringBuilder text = new StringBuilder("places ");
        for (int i = 0; i < many; i++) {
            text.append(i == 0 ? "" : ",").append('p').append((char) ('a' + i));
        }
        return text.toString();
    }

    private static void tooMany() {
        String twenty = row(20);
        int at = twenty.length();
        fine(twenty + ";", 1);
        fault(twenty + ",pu;", 5, at + 1);
        fault(twenty + ", \n!", 5, at + 3);
        fault(twenty + ", ;", 5, at + 2);
        fault(twenty + ",pa;", 5, at + 1);
        fault(twenty + ",", 1, at + 1);
        fault(twenty + ",  ", 1, at + 3);
        StringBuilder thirty = new StringBuilder(TWO);
        for (int i = 0; i < 30; i++) {
            thirty.append("reach a to b long 9;");
        }
        fine(thirty.toString(), 31);
        fault(thirty + " reach a to b long 9;", 5, 612);
        fault(thirty + "\nreach", 5, 612);
        fault(thirty + "reach1", 5, 611);
        fault(thirty + "reac", 1, 611);
        fault(thirty + "reachx", 1, 611);
        StringBuilder ten = new StringBuilder(TWO);
        for (int i = 0; i < 10; i++) {
            ten.append("reach a to b long 9 called r").append((char) ('a' + i)).append(';');
        }
        fine(ten + "reach a to b long 9 called ra;", 12);
        fault(ten + "reach a to b long 9 called  rk;", 5, ten.length() + 28);
        fault(ten + "reach a to b long 9 called a", 5, ten.length() + 27);
        fault(ten + "reach a to b long 9 called to;", 1, ten.length() + 27);
        fault(ten + "reach a to b long 9 called rabcdef;", 1, ten.length() + 33);
    }

    private static void faultsStay() {
        RiverRanks x = Due.rivers("abc a>b5+1=x b>c6");
        x.add(0, 2, 9, 9);
        Due.tape(x, 0, 1);
        x.see();
        int changed = x.changed(0);
        DUE.due("net", Due.net(x, "places a,b,c,d;reach a to e long 1;"), -1);
        DUE.due("fault", x.fault(0), 3);
        DUE.due("fault at", x.fault(1), 26);
        DUE.due("fault of others", x.fault(2), -1);
        DUE.due("fault of -1", x.fault(-1), -1);
        DUE.due("places", x.has(0), 3);
        DUE.due("reaches", x.has(1), 3);
        DUE.due("rivers", x.has(2), 1);
        DUE.due("acts", x.has(6), 1);
        DUE.due("seen", x.has(7), 1);
        DUE.due("changed", x.changed(0), changed);
        DUE.due("net", Due.net(x, "places z;"), 1);
        DUE.due("fault", x.fault(0), 0);
        DUE.due("fault at", x.fault(1), -1);
        DUE.due("places", x.has(0), 1);
        DUE.due("reaches", x.has(1), 0);
        DUE.due("rivers", x.has(2), 0);
        DUE.due("acts", x.has(6), 0);
        DUE.due("seen", x.has(7), 0);
        DUE.due("undo", x.undo(), false);
        DUE.due("changed", x.changed(0), -1);
    }

    private static void names() {
        RiverRanks x = Due.of("places az,bcdefg;reach bcdefg to az long 2 called zy;reach bcdefg to az long 2 called a;");
        int[] az = {1, 26, 0, 0, 0, 0};
        for (int k = 0; k < 6; k++) {
            DUE.due("letter", x.letter(0, 0, k), az[k]);
            DUE.due("letter", x.letter(0, 1, k), 2 + k);
        }
        DUE.due("letter of a river", x.letter(1, 0, 0), 26);
        DUE.due("letter of a river", x.letter(1, 0, 1), 25);
        DUE.due("letter of a river", x.letter(1, 0, 2), 0);
        DUE.due("letter of a river", x.letter(1, 1, 0), 1);
        DUE.due("letter 6", x.letter(0, 1, 6), -1);
        DUE.due("letter -1", x.letter(0, 1, -1), -1);
        DUE.due("no place", x.letter(0, 2, 0), -1);
        DUE.due("no place", x.letter(0, -1, 0), -1);
        DUE.due("no river", x.letter(1, 2, 0), -1);
        DUE.due("no kind", x.letter(2, 0, 0), -1);
        DUE.due("no kind", x.letter(-1, 0, 0), -1);
        x.cut(0, 1);
        DUE.due("no name", x.letter(0, 2, 0), 0);
        DUE.due("no name", x.letter(0, 2, 5), 0);
        x.undo();
        DUE.due("no place", x.letter(0, 2, 0), -1);
        DUE.due("still", x.letter(0, 1, 5), 7);
    }

    /** What the tape or an earlier net held behind the end counts no more. */
    private static void bytesThatWere() {
        RiverRanks x = new RiverRanks();
        Due.tape(x, "places a;");
        x.end(8);
        DUE.due("net", x.net(), -1);
        DUE.due("fault", x.fault(0), 1);
        DUE.due("fault at", x.fault(1), 8);
        Due.tape(x, TWO + "reach a to b long 123;");
        x.end(31);
        DUE.due("net", x.net(), -1);
        DUE.due("fault", x.fault(0), 1);
        DUE.due("fault at", x.fault(1), 31);
        Due.net(x, "places a,b,c,d;reach a to b long 9 called x;reach b to c long 9 called y;");
        DUE.due("net", Due.net(x, TWO + "reach b to a long 9 called z;"), 2);
        DUE.due("places", x.has(0), 2);
        DUE.due("rivers", x.has(2), 1);
        DUE.due("river", x.letter(1, 0, 0), 26);
        DUE.due("no river", x.letter(1, 1, 0), -1);
        DUE.due("cut", x.cut(0, 4), 2);
        DUE.due("no name", x.letter(0, 2, 0), 0);
        DUE.due("sources", x.has(3), 1);
        DUE.due("up", x.beyond(0, 0), Due.bits(1, 2));
    }
}
