/** Promises 6, 8, 9 and 10: what the net has, reaches, places, ranks. */
final class NetTest {
    private static final Due DUE = new Due();

    public static void main(String[] args) {
        counts();
        flowIsShared();
        lengths();
        met();
        ranksByStems();
        DUE.close("NetTest");
    }

    private static void counts() {
        RiverRanks x = Due.rivers("abcdef a>c5+10=x b>c3+4=y c>d7+1=x c>e2");
        int[] due = {6, 4, 2, 2, 2, 1, 0, 0, 15, 2};
        for (int what = 0; what < due.length; what++) {
            DUE.due("has " + what, x.has(what), due[what]);
        }
        DUE.due("has 10", x.has(10), -1);
        DUE.due("has -1", x.has(-1), -1);
        DUE.due("source", x.place(0, 2), 1);
        DUE.due("source", x.place(2, 2), 0);
        DUE.due("mouth", x.place(4, 3), 1);
        DUE.due("mouth", x.place(2, 3), 0);
        // A place that no reach touches is neither a source nor a mouth.
        DUE.due("source", x.place(5, 2), 0);
        DUE.due("mouth", x.place(5, 3), 0);
        DUE.due("from a source", x.place(5, 5), 0);
        DUE.due("to a mouth", x.place(5, 6), 0);
    }

    private static void flowIsShared() {
        // 11 come to b and are shared by three: 4, 4, 3, by numbers.
        RiverRanks x = Due.rivers("abcde b>c1+1 a>b1+11 b>d1 b>e1+50");
        DUE.due("flow", x.reach(1, 5), 11);
        DUE.due("flow", x.reach(0, 5), 5);
        DUE.due("flow", x.reach(2, 5), 4);
        DUE.due("flow", x.reach(3, 5), 53);
        DUE.due("comes", x.place(1, 4), 11);
        DUE.due("comes", x.place(4, 4), 53);
        DUE.due("comes", x.place(0, 4), 0);
        DUE.due("all", x.has(8), 62);
        DUE.due("ins", x.place(1, 0), 1);
        DUE.due("outs", x.place(1, 1), 3);
        DUE.due("others", x.place(1, 7), -1);
        DUE.due("others", x.place(1, -1), -1);
        DUE.due("none", x.place(5, 0), -1);
        DUE.due("none", x.place(-1, 0), -1);
        DUE.due("yield", x.reach(3, 3), 50);
        DUE.due("length", x.reach(3, 2), 1);
        DUE.due("river", x.reach(3, 4), -1);
        DUE.due("springs", x.reach(3, 6), 1);
        DUE.due("others", x.reach(3, 7), -1);
        DUE.due("others", x.reach(3, -1), -1);
        DUE.due("none", x.reach(4, 0), -1);
        DUE.due("none", x.reach(-1, 0), -1);
    }

    private static void lengths() {
        RiverRanks x = Due.rivers("abcd a>b9 b>d9 a>d20 c>d1 a>c30");
        DUE.due("from a source", x.place(3, 5), 31);
        DUE.due("from a source", x.place(0, 5), 0);
        DUE.due("from a source", x.place(1, 5), 9);
        DUE.due("to a mouth", x.place(0, 6), 31);
        DUE.due("to a mouth", x.place(1, 6), 9);
        DUE.due("to a mouth", x.place(3, 6), 0);
    }

    private static void met() {
        // Two ones that meet make a two; two twos a three; a two and a one a two.
        RiverRanks x = Due.rivers("abcdefghi a>e1 b>e1 c>f1 d>f1 e>g1 f>g1 g>h1 i>h1");
        int[] due = {1, 1, 1, 1, 2, 2, 3, 1};
        int[] fed = {1, 1, 1, 1, 2, 2, 4, 1};
        for (int r = 0; r < due.length; r++) {
            DUE.due("met " + r, x.rank(r, 0, -7), due[r]);
            DUE.due("fed " + r, x.rank(r, 1, 99), fed[r]);
        }
        DUE.due("greatest", x.has(9), 3);
        // Two that part and meet again have their spring in common.
        x = Due.rivers("abcde a>b1 b>c1 b>d1 c>e1 d>e1 a>c1");
        for (int r = 0; r < 6; r++) {
            DUE.due("met " + r, x.rank(r, 0, 0), 1);
        }
        // Of three that meet two have none in common: a row of which neighbours share.
        x = Due.rivers("abcdefg a>d1 a>e1 b>e1 b>f1 c>f1 d>g1 e>g1 f>g1");
        DUE.due("met", x.rank(6, 0, 0), 2);
        DUE.due("met", x.rank(7, 0, 0), 2);
        x.cut(7, 1);
        x.add(6, 0, 1, 1);
        DUE.due("ring", x.has(1), 8);
        x = Due.rivers("abcdefgh a>d1 a>e1 b>e1 b>f1 c>f1 d>g1 e>g1 f>g1 g>h1");
        // e and f share b, so g stays a two.
        DUE.due("met", x.rank(8, 0, 0), 2);
        DUE.due("none", x.rank(9, 0, 0), -1);
        DUE.due("none", x.rank(-1, 0, 0), -1);
        DUE.due("no kind", x.rank(0, 4, 0), -1);
        DUE.due("no kind", x.rank(0, -1, 0), -1);
        DUE.due("no way", x.rank(0, 2, 3), -1);
        DUE.due("no way", x.rank(0, 3, -1), -1);
    }

    private static void ranksByStems() {
        RiverRanks x = Due.rivers("abcdef a>c5+1 b>c1+9 c>e1 d>e1+20 e>f1");
        int[] byFlow = {3, 2, 2, 1, 1};
        int[] byLength = {1, 2, 1, 2, 1};
        int[] crownByFlow = {1, 2, 2, 2, 2};
        int[] crownByLength = {2, 1, 2, 1, 2};
        for (int r = 0; r < 5; r++) {
            DUE.due("branch by flow " + r, x.rank(r, 2, 0), byFlow[r]);
            DUE.due("branch by length " + r, x.rank(r, 2, 1), byLength[r]);
            DUE.due("branch by names " + r, x.rank(r, 2, 2), byFlow[r]);
            DUE.due("crown by flow " + r, x.rank(r, 3, 0), crownByFlow[r]);
            DUE.due("crown by length " + r, x.rank(r, 3, 1), crownByLength[r]);
            DUE.due("crown by names " + r, x.rank(r, 3, 2), crownByFlow[r]);
        }
        // A side stem that ends where a river parts is 1 more than the least that runs from there.
        x = Due.rivers("abcdefg a>c1+9 b>c1+1 c>d1+1 c>e1 f>e1+50 e>g1");
        // d is a mouth and c>d has the most flow; c>e ends at e beside f's stem.
        DUE.due("branch", x.rank(0, 2, 0), 1);
        DUE.due("branch", x.rank(3, 2, 0), 2);
        DUE.due("branch", x.rank(1, 2, 0), 2);
    }
}
