/** Promises 11 to 13: which reach goes on in which, stems, the longest stem. */
final class StemsTest {
    private static final Due DUE = new Due();

    public static void main(String[] args) {
        goesOn();
        byNames();
        likeOnes();
        longest();
        DUE.close("StemsTest");
    }

    private static void goesOn() {
        RiverRanks x = Due.rivers("abcdef a>c5+1 b>c1+9 c>e1 d>e1+20 e>f1");
        DUE.due("by flow", x.goes(1, 0, 0), 2);
        DUE.due("by flow", x.goes(0, 0, 0), -1);
        DUE.due("by flow", x.goes(3, 0, 0), 4);
        DUE.due("by flow", x.goes(2, 0, 0), -1);
        DUE.due("by length", x.goes(0, 1, 0), 2);
        DUE.due("by length", x.goes(2, 1, 0), 4);
        DUE.due("by length", x.goes(3, 1, 0), -1);
        DUE.due("back by length", x.goes(4, 1, 1), 2);
        DUE.due("back by flow", x.goes(4, 0, 1), 3);
        DUE.due("back by flow", x.goes(0, 0, 1), -1);
        DUE.due("no way", x.goes(0, 3, 0), -1);
        DUE.due("no way", x.goes(0, -1, 0), -1);
        DUE.due("no reach", x.goes(5, 0, 0), -1);
        DUE.due("no reach", x.goes(-1, 0, 0), -1);
        DUE.due("others", x.goes(1, 0, 2), -1);
        DUE.due("others", x.goes(1, 0, -1), -1);
        DUE.due("stem", x.stem(4, 1, -1), 3);
        DUE.due("stem", x.stem(0, 1, 0), 0);
        DUE.due("stem", x.stem(0, 1, 1), 2);
        DUE.due("stem", x.stem(2, 1, 2), 4);
        DUE.due("stem", x.stem(2, 1, 3), -1);
        DUE.due("stem", x.stem(2, 1, Integer.MAX_VALUE), -1);
        DUE.due("stem", x.stem(2, 1, -2), -1);
        DUE.due("no way", x.stem(0, 3, 0), -1);
        DUE.due("no way", x.stem(0, -1, -1), -1);
        DUE.due("no reach", x.stem(5, 0, 0), -1);
        DUE.due("no reach", x.stem(-1, 0, -1), -1);
    }

    private static void byNames() {
        // The main out by flow is called x, so the first in called x goes on, though smaller.
        RiverRanks x = Due.rivers("abcde a>d1+9=y b>d1+1=x c>d1+2=x d>e1=x");
        DUE.due("by flow", x.goes(3, 0, 1), 0);
        DUE.due("by names", x.goes(3, 2, 1), 1);
        DUE.due("by names", x.goes(1, 2, 0), 3);
        DUE.due("by names", x.goes(0, 2, 0), -1);
        // None is called so: as by flow.
        x.call(1, -1);
        x.call(2, -1);
        DUE.due("by names", x.goes(3, 2, 1), 0);
        // Not called: as by flow, also where others are not called.
        x.call(3, -1);
        DUE.due("by names", x.goes(3, 2, 1), 0);
        // Both are picked by the mains by flow, so unlike names may go on in one another.
        x = Due.rivers("abcde a>c1+10=p b>c1+4=q c>d1+3=q c>e1=p");
        DUE.due("main in by names", x.goes(1, 2, 0), 3);
        DUE.due("main out by names", x.goes(3, 2, 1), 1);
        DUE.due("by flow", x.goes(0, 0, 0), 2);
        DUE.due("by names", x.goes(0, 2, 0), -1);
        DUE.due("by names", x.goes(2, 2, 1), -1);
    }

    private static void likeOnes() {
        RiverRanks x = Due.rivers("abcde b>c2+5 a>c2+5 c>e1+3 c>d1+3");
        DUE.due("the first in", x.goes(0, 0, 0), 2);
        DUE.due("the first out", x.goes(2, 0, 1), 0);
        DUE.due("the first in by length", x.goes(0, 1, 0), 2);
        DUE.due("not the second", x.goes(1, 1, 0), -1);
        DUE.due("not the second", x.goes(3, 1, 1), -1);
    }

    private static void longest() {
        RiverRanks x = Due.rivers("abcdef a>c5+1 b>c1+9 c>e1 d>e1+20 e>f1");
        int[] byFlow = {3, 1, 5, 0};
        int[] byLength = {3, 3, 7, 0};
        for (int what = 0; what < 4; what++) {
            DUE.due("stems by flow " + what, x.stems(0, what), byFlow[what]);
            DUE.due("stems by length " + what, x.stems(1, what), byLength[what]);
        }
        DUE.due("others", x.stems(0, 4), -1);
        DUE.due("others", x.stems(0, -1), -1);
        DUE.due("no way", x.stems(3, 0), -1);
        DUE.due("no way", x.stems(-1, 0), -1);
        // Of like ones that of the least top.
        x = Due.rivers("abcdef b>c2 c>d2 e>f4 a>e1");
        DUE.due("longest", x.stems(0, 3), 3);
        x.drop(3);
        DUE.due("longest", x.stems(0, 3), 0);
        DUE.due("longest", x.stems(0, 1), 2);
        x = Due.rivers("abcdef e>f4 c>d2 b>c2");
        DUE.due("longest", x.stems(2, 3), 0);
        DUE.due("longest", x.stems(2, 1), 1);
        x = Due.rivers("abcdef c>d2 e>f4 b>c2");
        DUE.due("longest", x.stems(2, 3), 1);
        x = Due.of("places a;");
        DUE.due("without reaches", x.stems(0, 0), 0);
        DUE.due("without reaches", x.stems(2, 1), -1);
        DUE.due("without reaches", x.stems(2, 2), -1);
        DUE.due("without reaches", x.stems(2, 3), -1);
    }
}
