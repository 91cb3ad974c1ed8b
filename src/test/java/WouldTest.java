/** Promises 22 to 28: turning, loss, what cuts off, waves, what changed. */
final class WouldTest {
    private static final Due DUE = new Due();

    public static void main(String[] args) {
        canTurn();
        would();
        losses();
        fewest();
        waves();
        changed();
        DUE.close("WouldTest");
    }

    private static void canTurn() {
        RiverRanks x = Due.rivers("abc a>b1 b>c1 a>c1");
        DUE.due("short", x.canTurn(0), 1);
        DUE.due("short", x.canTurn(1), 1);
        DUE.due("round", x.canTurn(2), 0);
        DUE.due("no reach", x.canTurn(3), -1);
        DUE.due("no reach", x.canTurn(-1), -1);
        x = Due.rivers("ab a>b1 a>b1");
        DUE.due("side by side", x.canTurn(0), 0);
        DUE.due("side by side", x.canTurn(1), 0);
    }

    private static void would() {
        RiverRanks x = Due.rivers("abcd a>c1 b>c1 c>d1");
        DUE.due("greatest", x.would(0, 0), 1);
        DUE.due("mouths", x.would(0, 1), 2);
        DUE.due("others ranks", x.would(0, 2), 1);
        DUE.due("greatest", x.would(2, 0), 1);
        DUE.due("mouths", x.would(2, 1), 1);
        DUE.due("others ranks", x.would(2, 2), 1);
        DUE.due("stays", x.has(9), 2);
        DUE.due("stays", x.reach(0, 0), 0);
        DUE.due("acts", x.has(6), 0);
        DUE.due("others", x.would(0, 3), -1);
        DUE.due("others", x.would(0, -1), -1);
        DUE.due("no reach", x.would(3, 0), -1);
        DUE.due("no reach", x.would(-1, 0), -1);
        x = Due.rivers("ab a>b1 a>b1");
        DUE.due("can't be", x.would(0, 1), -1);
    }

    private static void losses() {
        RiverRanks x = Due.rivers("abcde a>c5+10 b>c3+4 c>d7+1 c>e2");
        int[] due = {10, 4, 1, 0};
        for (int r = 0; r < due.length; r++) {
            DUE.due("loss " + r, x.loss(r), due[r]);
        }
        DUE.due("no reach", x.loss(4), -1);
        DUE.due("no reach", x.loss(-1), -1);
        DUE.due("starves", x.starves(0), 0);
        DUE.due("starves", x.starves(1), 10);
        DUE.due("others", x.starves(2), -1);
        DUE.due("others", x.starves(-1), -1);
        DUE.due("stays", x.has(8), 15);
        // Where the last way down goes, its head is no mouth that there is now.
        x = Due.rivers("abc a>b1+5 b>c1+2");
        DUE.due("loss", x.loss(0), 5);
        DUE.due("loss", x.loss(1), 7);
        DUE.due("starves", x.starves(0), 1);
        // Of like ones the first.
        x = Due.rivers("abc a>b1+5 b>c1");
        DUE.due("starves", x.starves(0), 0);
        DUE.due("starves", x.starves(1), 5);
        x = Due.rivers("abc a>b1 b>c1");
        DUE.due("starves", x.starves(0), 0);
        DUE.due("starves", x.starves(1), 0);
        x = Due.of("places a;");
        DUE.due("without reaches", x.starves(0), -1);
        DUE.due("without reaches", x.starves(1), -1);
    }

    private static void fewest() {
        RiverRanks x = Due.rivers("abcdefg a>c1 b>c1 c>d1 d>e1 d>e1 d>e1 b>e1");
        DUE.due("of a source", x.fewest(0), -1);
        DUE.due("fewest", x.fewest(2), 2);
        DUE.due("fewest", x.fewest(3), 1);
        DUE.due("fewest", x.fewest(4), 2);
        DUE.due("by none", x.fewest(5), 0);
        DUE.due("no place", x.fewest(7), -1);
        DUE.due("no place", x.fewest(-1), -1);
        // A way found first must be gone back on: a>c>d>f and b>d>..
        x = Due.rivers("abcdef a>b1 b>e1 a>c1 c>e1 b>d1 d>f1 e>f1 c>d1");
        DUE.due("fewest", x.fewest(5), 2);
        DUE.due("fewest", x.fewest(3), 2);
        x = Due.rivers("abcdef a>b1 a>c1 b>c1 b>d1 c>e1 d>f1 e>f1");
        DUE.due("fewest", x.fewest(5), 2);
        DUE.due("fewest", x.fewest(2), 2);
        DUE.due("fewest", x.fewest(4), 1);
    }

    private static void waves() {
        RiverRanks x = Due.rivers("abcdef a>d5 b>d3 c>d5 d>e1 d>f2+1");
        DUE.due("most", x.wave(3, 0), 2);
        DUE.due("hour", x.wave(3, 1), 5);
        DUE.due("last", x.wave(3, 2), 5);
        DUE.due("many", x.wave(3, 3), 3);
        DUE.due("hour", x.wave(5, 1), 7);
        DUE.due("many", x.wave(5, 3), 3);
        DUE.due("not by the main out", x.wave(4, 3), 0);
        DUE.due("not by the main out", x.wave(4, 0), -1);
        DUE.due("not by the main out", x.wave(4, 1), -1);
        DUE.due("not by the main out", x.wave(4, 2), -1);
        DUE.due("a source", x.wave(1, 0), 1);
        DUE.due("a source", x.wave(1, 1), 0);
        DUE.due("a source", x.wave(1, 2), 0);
        DUE.due("a source", x.wave(1, 3), 1);
        DUE.due("others", x.wave(1, 4), -1);
        DUE.due("others", x.wave(1, -1), -1);
        DUE.due("no place", x.wave(6, 3), -1);
        DUE.due("no place", x.wave(-1, 3), -1);
        // The first of like hours, though a later source comes then.
        x = Due.rivers("abcde a>e9 b>e4 c>e9 d>e4");
        DUE.due("most", x.wave(4, 0), 2);
        DUE.due("hour", x.wave(4, 1), 4);
        DUE.due("last", x.wave(4, 2), 9);
    }

    private static void changed() {
        RiverRanks x = Due.rivers("abcd a>c1+5 b>c1+1 c>d1=x");
        DUE.due("ahead of any", x.changed(0), -1);
        DUE.due("add", x.add(0, 1, 1, 0), 3);
        // met: c>d 2 to 1; fed: c>d 2 to 1.
        DUE.due("met", x.changed(0), 1);
        DUE.due("fed", x.changed(1), 1);
        DUE.due("branch", x.changed(2), 0);
        DUE.due("crown", x.changed(3), 2);
        DUE.due("others", x.changed(4), -1);
        DUE.due("others", x.changed(-1), -1);
        DUE.due("refused", x.add(0, 0, 1, 0), -1);
        DUE.due("met still", x.changed(0), 1);
        DUE.due("gives", x.gives(2, 7), true);
        for (int kind = 0; kind < 4; kind++) {
            DUE.due("by a yield " + kind, x.changed(kind), 0);
        }
        // b>c comes to be the main in, and a>b with it; a>c ends there.
        DUE.due("gives", x.gives(1, 50), true);
        DUE.due("branch", x.changed(2), 3);
        DUE.due("undo", x.undo(), true);
        DUE.due("behind undo", x.changed(0), -1);
        // By numbers: the first goes, those behind move up.
        x = Due.rivers("abcd a>c1+5 b>c1+1 c>d1");
        DUE.due("drop", x.drop(0), true);
        DUE.due("met", x.changed(0), 0);
        DUE.due("branch", x.changed(2), 1);
        DUE.due("crown", x.changed(3), 1);
        // Another main by flow.
        x = Due.rivers("abcd a>c1+5 b>c1+1 c>d1");
        DUE.due("gives", x.gives(1, 6), true);
        DUE.due("met", x.changed(0), 0);
        DUE.due("branch", x.changed(2), 2);
        DUE.due("crown", x.changed(3), 2);
        Due.net(x, "places a;");
        DUE.due("behind net", x.changed(2), -1);
    }
}
