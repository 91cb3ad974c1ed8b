/** Promises 29 to 31: what is seen, what fits, what tells most. */
final class SeenTest {
    private static final Due DUE = new Due();

    public static void main(String[] args) {
        seen();
        wrongRows();
        fitting();
        telling();
        DUE.close("SeenTest");
    }

    private static int see(RiverRanks x, int... bytes) {
        Due.tape(x, bytes);
        return x.see();
    }

    private static void seen() {
        RiverRanks x = Due.rivers("abcde a>c5 b>c3 c>d7 c>e2");
        DUE.due("nothing seen", x.fits(), -1);
        DUE.due("see", see(x, 2, 1), 1);
        DUE.due("fits", x.fits(), Due.bits(0, 1, 2));
        DUE.due("see", see(x, 2, 1, 0, 0), 2);
        DUE.due("fits", x.fits(), Due.bits(1, 2));
        DUE.due("rows", x.has(7), 2);
        int[] twelve = new int[24];
        DUE.due("see 12", see(x, twelve), 12);
        DUE.due("see 13", see(x, new int[26]), -1);
        DUE.due("rows", x.has(7), 12);
        DUE.due("status", x.status(1), 1);
        DUE.due("the tape is gone", x.feed(0, 0, 0, 0, 0), 20);
    }

    private static void wrongRows() {
        RiverRanks x = Due.rivers("abcde a>c5 b>c3 c>d7 c>e2");
        DUE.due("see", see(x, 3, 1), 1);
        DUE.due("nothing", see(x), -1);
        DUE.due("odd", see(x, 2, 1, 0), -1);
        DUE.due("one", see(x, 2), -1);
        DUE.due("no reach", see(x, 4, 1), -1);
        DUE.due("no reach", see(x, 0, 1, 255, 0), -1);
        DUE.due("neither", see(x, 0, 2), -1);
        DUE.due("neither", see(x, 0, 0, 1, 255), -1);
        DUE.due("status", x.status(1), 7);
        DUE.due("rows", x.has(7), 1);
        DUE.due("fits", x.fits(), Due.bits(0, 1, 2));
        x = Due.of("places a;");
        DUE.due("without reaches", see(x, 0, 1), -1);
    }

    private static void fitting() {
        RiverRanks x = Due.rivers("abcde a>c5 b>c3 c>d7 c>e2");
        // A dye at a mouth is in no reach.
        see(x, 2, 0);
        DUE.due("fits", x.fits(), Due.bits(3, 4));
        // Yes of a and of b at once fits no place.
        see(x, 0, 1, 1, 1);
        DUE.due("fits", x.fits(), 0);
        DUE.due("tells", x.tells(0), -1);
        // One row says yes, one says no.
        see(x, 2, 1, 2, 0);
        DUE.due("fits", x.fits(), 0);
        see(x, 3, 1);
        DUE.due("fits", x.fits(), Due.bits(0, 1, 2));
        x.drop(0);
        DUE.due("none by now", x.fits(), -1);
        DUE.due("none by now", x.tells(0), -1);
        x.undo();
        DUE.due("seen stays", x.fits(), Due.bits(0, 1, 2));
        // What is seen is looked at in the net of now.
        x.turn(2);
        DUE.due("fits", x.fits(), Due.bits(0, 1, 2, 3));
        x.image();
        int[] bytes = new int[x.image()];
        for (int k = 0; k < bytes.length; k++) {
            bytes[k] = x.octet(k);
        }
        Due.tape(x, bytes);
        DUE.due("on", x.on(), true);
        DUE.due("seen stays", x.has(7), 1);
        DUE.due("fits", x.fits(), Due.bits(0, 1, 2, 3));
    }

    private static void telling() {
        RiverRanks x = Due.rivers("abcde a>c5 b>c3 c>d7 c>e2");
        DUE.due("nothing seen", x.tells(0), -1);
        DUE.due("nothing seen", x.tells(1), -1);
        see(x, 2, 1, 0, 0);
        DUE.due("tells", x.tells(0), 1);
        DUE.due("left", x.tells(1), 1);
        DUE.due("others", x.tells(2), -1);
        DUE.due("others", x.tells(-1), -1);
        // A chain of five: the middle one halves it.
        x = Due.rivers("abcdef a>b1 b>c1 c>d1 d>e1 e>f1");
        see(x, 4, 1);
        DUE.due("fits", x.fits(), Due.bits(0, 1, 2, 3, 4));
        DUE.due("tells", x.tells(0), 1);
        DUE.due("left", x.tells(1), 3);
        // Of like ones the first, also one that tells nothing.
        see(x, 0, 1);
        DUE.due("fits", x.fits(), Due.bits(0));
        DUE.due("tells", x.tells(0), 0);
        DUE.due("left", x.tells(1), 1);
    }
}
