/** Promises 14 to 21: up and down, springs, ways, waters, braids, streams, rivers. */
final class WaysTest {
    private static final Due DUE = new Due();

    public static void main(String[] args) {
        upAndDown();
        ways();
        waters();
        braids();
        streams();
        rivers();
        DUE.close("WaysTest");
    }

    private static void upAndDown() {
        RiverRanks x = Due.rivers("abcdef a>c1 b>c1 c>d1 c>e1");
        DUE.due("up", x.beyond(2, 0), Due.bits(0, 1));
        DUE.due("down", x.beyond(2, 1), Due.bits(3, 4));
        DUE.due("up", x.beyond(3, 0), Due.bits(0, 1, 2));
        DUE.due("down", x.beyond(0, 1), Due.bits(2, 3, 4));
        DUE.due("up", x.beyond(5, 0), 0);
        DUE.due("down", x.beyond(5, 1), 0);
        DUE.due("others", x.beyond(0, 2), -1);
        DUE.due("others", x.beyond(0, -1), -1);
        DUE.due("no place", x.beyond(6, 0), -1);
        DUE.due("no place", x.beyond(-1, 0), -1);
        DUE.due("springs", x.springs(0), Due.bits(0));
        DUE.due("springs", x.springs(3), Due.bits(0, 1));
        DUE.due("no reach", x.springs(4), -1);
        DUE.due("no reach", x.springs(-1), -1);
    }

    private static void ways() {
        // Nine doubled reaches in a row and a last one of three: 2 to the 9 times 3.
        StringBuilder told = new StringBuilder("abcdefghijk");
        for (int i = 0; i < 10; i++) {
            char from = (char) ('a' + i);
            char to = (char) ('b' + i);
            for (int k = 0; k < (i == 9 ? 3 : 2); k++) {
                told.append(' ').append(from).append('>').append(to).append(10 + k);
            }
        }
        RiverRanks x = Due.rivers(told.toString());
        DUE.due("ways", x.ways(0, 10), 512 * 3);
        DUE.due("ways", x.ways(8, 10), 6);
        DUE.due("ways", x.ways(10, 0), 0);
        DUE.due("ways", x.ways(4, 4), 1);
        DUE.due("no place", x.ways(0, 11), -1);
        DUE.due("no place", x.ways(-1, 0), -1);
        DUE.due("least", x.far(0, 10, 0), 100);
        DUE.due("greatest", x.far(0, 10, 1), 9 * 11 + 12);
        DUE.due("least", x.far(3, 3, 0), 0);
        DUE.due("greatest", x.far(3, 3, 1), 0);
        DUE.due("none", x.far(3, 2, 0), -1);
        DUE.due("none", x.far(3, 2, 1), -1);
        DUE.due("others", x.far(0, 1, 2), -1);
        DUE.due("others", x.far(0, 1, -1), -1);
        DUE.due("no place", x.far(0, 11, 0), -1);
        DUE.due("no place", x.far(-1, 0, 1), -1);
    }

    private static void waters() {
        RiverRanks x = Due.rivers("abcdefg a>d1 b>d1 d>e1 c>e1 a>f1");
        DUE.due("meet", x.waters(0, 1), 3);
        DUE.due("meet", x.waters(0, 2), 4);
        DUE.due("meet", x.waters(3, 0), 3);
        DUE.due("meet", x.waters(4, 0), 4);
        DUE.due("meet", x.waters(2, 2), 2);
        DUE.due("nowhere", x.waters(5, 1), -1);
        DUE.due("nowhere", x.waters(6, 1), -1);
        DUE.due("no place", x.waters(7, 1), -1);
        DUE.due("no place", x.waters(0, -1), -1);
        // Two where they meet first, none of them up of the other: the first by number.
        x = Due.rivers("abcde a>d1 a>c1 b>d1 b>c1 c>e1 d>e1");
        DUE.due("the first", x.waters(0, 1), 2);
        // c lies up of b, so b is not the one, though its number is less.
        x = Due.rivers("abcd a>c1 d>c1 c>b1 a>b1 d>b1");
        DUE.due("the nearest", x.waters(0, 3), 2);
    }

    private static void braids() {
        RiverRanks x = Due.rivers("abcdefg a>c1 a>d1 c>b1 d>b1 b>e1 e>f1 e>g1");
        DUE.due("braid", x.braid(0), 1);
        DUE.due("two mouths", x.braid(4), -1);
        DUE.due("does not part", x.braid(1), -1);
        DUE.due("a mouth", x.braid(6), -1);
        DUE.due("no place", x.braid(7), -1);
        DUE.due("no place", x.braid(-1), -1);
        // Two side by side, to a mouth.
        x = Due.rivers("ab a>b1 a>b1");
        DUE.due("braid", x.braid(0), 1);
        // One way leaves the braid for another mouth.
        x = Due.rivers("abcde a>b1 a>c1 b>d1 c>d1 c>e1");
        DUE.due("no braid", x.braid(0), -1);
        x.drop(4);
        DUE.due("braid", x.braid(0), 3);
        // A braid in a braid.
        x = Due.rivers("abcdef a>b1 a>f1 b>c1 b>d1 c>e1 d>e1 e>f1");
        DUE.due("inner", x.braid(1), 4);
        DUE.due("outer", x.braid(0), 5);
    }

    private static void streams() {
        RiverRanks x = Due.rivers("abcdefg a>c1 b>c2 c>d3 d>e4 d>f5 f>g6 e>g7");
        DUE.due("streams of 1", x.streams(1, 0), 2);
        DUE.due("reaches of 1", x.streams(1, 1), 2);
        DUE.due("length of 1", x.streams(1, 2), 3);
        DUE.due("streams of 2", x.streams(2, 0), 1);
        DUE.due("reaches of 2", x.streams(2, 1), 5);
        DUE.due("length of 2", x.streams(2, 2), 25);
        DUE.due("streams of 3", x.streams(3, 0), 0);
        DUE.due("reaches of 3", x.streams(3, 1), 0);
        DUE.due("length of most", x.streams(Integer.MAX_VALUE, 2), 0);
        DUE.due("no rank", x.streams(0, 0), -1);
        DUE.due("no rank", x.streams(-1, 2), -1);
        DUE.due("others", x.streams(1, 3), -1);
        DUE.due("others", x.streams(1, -1), -1);
        // Two that part at the place where the rank begins do not hang together by their heads.
        x = Due.rivers("abcde a>c1 b>c1 c>d1 c>e1");
        DUE.due("streams of 2", x.streams(2, 0), 2);
        // Two that only meet do not either, but by what runs from there.
        x = Due.rivers("abcd a>b1 a>c1 b>d1 c>d1");
        DUE.due("streams of 1", x.streams(1, 0), 2);
        x = Due.rivers("abcde a>b1 a>c1 b>d1 c>d1 d>e1");
        DUE.due("streams of 1", x.streams(1, 0), 1);
    }

    private static void rivers() {
        RiverRanks x = Due.rivers("abcdef b>c5=x a>b4=x c>d3=y e>f2=y");
        DUE.due("reaches", x.river(0, 0), 2);
        DUE.due("length", x.river(0, 1), 9);
        DUE.due("torn", x.river(0, 2), 0);
        DUE.due("first", x.river(0, 3), 0);
        DUE.due("torn", x.river(1, 2), 1);
        DUE.due("first", x.river(1, 3), 2);
        DUE.due("length", x.river(1, 1), 5);
        DUE.due("no river", x.river(2, 0), -1);
        DUE.due("no river", x.river(-1, 0), -1);
        DUE.due("others", x.river(0, 4), -1);
        DUE.due("others", x.river(0, -1), -1);
        x.drop(2);
        DUE.due("torn", x.river(1, 2), 0);
        x.drop(2);
        DUE.due("reaches", x.river(1, 0), 0);
        DUE.due("length", x.river(1, 1), 0);
        DUE.due("torn of none", x.river(1, 2), 0);
        DUE.due("first of none", x.river(1, 3), -1);
        DUE.due("rivers", x.has(2), 2);
        // Side by side, from one place, to one place: torn.
        x = Due.rivers("abc a>b1=x a>b1=x a>c1=y a>b1=y a>c1=z b>c1=z");
        DUE.due("side by side", x.river(0, 2), 1);
        DUE.due("from one place", x.river(1, 2), 1);
        DUE.due("to one place", x.river(2, 2), 1);
        // A row and one beside it.
        x = Due.rivers("abcd a>b1=x b>c1=x c>d1=x a>c1=x");
        DUE.due("one beside", x.river(0, 2), 1);
        x.call(3, -1);
        DUE.due("a row", x.river(0, 2), 0);
        x.call(1, -1);
        DUE.due("a gap", x.river(0, 2), 1);
    }
}
