/** Promises 32 to 44: acts, undo, the seed, images, how many were refused. */
final class ActsTest {
    private static final Due DUE = new Due();

    public static void main(String[] args) {
        adds();
        drops();
        cuts();
        turns();
        gives();
        calls();
        chances();
        answersOfNow();
        undoes();
        images();
        wrongImages();
        refusals();
        DUE.close("ActsTest");
    }

    private static void reachIs(RiverRanks x, int reach, int... due) {
        for (int what = 0; what < due.length; what++) {
            DUE.due("reach " + reach + ", " + what, x.reach(reach, what), due[what]);
        }
    }

    private static void adds() {
        RiverRanks x = Due.rivers("abc a>b1 b>c1");
        DUE.due("add", x.add(0, 2, 99, 99), 2);
        reachIs(x, 2, 0, 2, 99, 99, -1, 99, 1);
        DUE.due("ring", x.add(2, 0, 1, 1), -1);
        DUE.due("itself", x.add(1, 1, 1, 1), -1);
        DUE.due("no place", x.add(3, 1, 1, 1), -1);
        DUE.due("no place", x.add(1, 3, 1, 1), -1);
        DUE.due("no place", x.add(-1, 1, 1, 1), -1);
        DUE.due("no place", x.add(0, -1, 1, 1), -1);
        DUE.due("length", x.add(0, 1, 0, 1), -1);
        DUE.due("length", x.add(0, 1, 100, 1), -1);
        DUE.due("yield", x.add(0, 1, 1, -1), -1);
        DUE.due("yield", x.add(0, 1, 1, 100), -1);
        DUE.due("status", x.status(2), 10);
        for (int i = 3; i < 30; i++) {
            DUE.due("add", x.add(0, 1, 1, 0), i);
        }
        DUE.due("31st", x.add(0, 1, 1, 0), -1);
        DUE.due("reaches", x.has(1), 30);
        DUE.due("cut", x.cut(2, 5), -1);
        DUE.due("status", x.status(2), 12);
    }

    private static void drops() {
        RiverRanks x = Due.rivers("abcd a>b1+1=x b>c2+2=y c>d3+3");
        DUE.due("none", x.drop(3), false);
        DUE.due("none", x.drop(-1), false);
        DUE.due("status", x.status(2), 2);
        DUE.due("drop", x.drop(1), true);
        DUE.due("reaches", x.has(1), 2);
        reachIs(x, 0, 0, 1, 1, 1, 0);
        reachIs(x, 1, 2, 3, 3, 3, -1);
        DUE.due("none", x.reach(2, 0), -1);
        DUE.due("drop", x.drop(1), true);
        DUE.due("drop", x.drop(0), true);
        DUE.due("drop", x.drop(0), false);
        DUE.due("sources", x.has(3), 0);
        DUE.due("undo", x.undo(), true);
        DUE.due("undo", x.undo(), true);
        DUE.due("undo", x.undo(), true);
        reachIs(x, 1, 1, 2, 2, 2, 1);
        reachIs(x, 2, 2, 3, 3, 3, -1);
    }

    private static void cuts() {
        RiverRanks x = Due.rivers("abc a>b9+7=x b>c1");
        DUE.due("at 0", x.cut(0, 0), -1);
        DUE.due("at its end", x.cut(0, 9), -1);
        DUE.due("below", x.cut(0, -1), -1);
        DUE.due("too short", x.cut(1, 1), -1);
        DUE.due("none", x.cut(2, 1), -1);
        DUE.due("none", x.cut(-1, 1), -1);
        DUE.due("status", x.status(2), 6);
        DUE.due("cut", x.cut(0, 8), 3);
        reachIs(x, 0, 0, 3, 8, 7, 0, 7);
        reachIs(x, 2, 3, 1, 1, 0, 0, 7);
        DUE.due("places", x.has(0), 4);
        DUE.due("no name", x.letter(0, 3, 0), 0);
        DUE.due("torn", x.river(0, 2), 0);
        DUE.due("undo", x.undo(), true);
        reachIs(x, 0, 0, 1, 9, 7, 0, 7);
        DUE.due("places", x.has(0), 3);
        DUE.due("reaches", x.has(1), 2);
        x = Due.of("places a,b;reach a to b long 99;");
        for (int i = 2; i < 20; i++) {
            DUE.due("cut", x.cut(i - 2, 1), i);
        }
        DUE.due("a 21st place", x.cut(18, 1), -1);
    }

    private static void turns() {
        RiverRanks x = Due.rivers("abc a>b4+1=x b>c1 a>c1");
        DUE.due("turn", x.turn(0), true);
        reachIs(x, 0, 1, 0, 4, 1, 0);
        DUE.due("a ring", x.turn(1), false);
        DUE.due("none", x.turn(3), false);
        DUE.due("none", x.turn(-1), false);
        DUE.due("status", x.status(3), 3);
        DUE.due("back", x.turn(0), true);
        reachIs(x, 0, 0, 1, 4, 1, 0);
        DUE.due("acts", x.has(6), 2);
    }

    private static void gives() {
        RiverRanks x = Due.rivers("ab a>b4+1");
        DUE.due("the same", x.gives(0, 1), false);
        DUE.due("below", x.gives(0, -1), false);
        DUE.due("above", x.gives(0, 100), false);
        DUE.due("none", x.gives(1, 5), false);
        DUE.due("none", x.gives(-1, 5), false);
        DUE.due("acts", x.has(6), 0);
        DUE.due("gives", x.gives(0, 99), true);
        DUE.due("gives", x.gives(0, 0), true);
        DUE.due("yield", x.reach(0, 3), 0);
        DUE.due("flow", x.has(8), 0);
        DUE.due("undo", x.undo(), true);
        DUE.due("flow", x.has(8), 99);
        DUE.due("status", x.status(3), 5);
    }

    private static void calls() {
        RiverRanks x = Due.rivers("abc a>b4=x b>c4=y b>c5");
        DUE.due("the same", x.call(0, 0), false);
        DUE.due("not called", x.call(2, -1), false);
        DUE.due("no river", x.call(0, 2), false);
        DUE.due("no river", x.call(0, -2), false);
        DUE.due("none", x.call(3, 0), false);
        DUE.due("none", x.call(-1, 0), false);
        DUE.due("status", x.status(3), 6);
        DUE.due("call", x.call(2, 1), true);
        DUE.due("river", x.reach(2, 4), 1);
        DUE.due("call", x.call(0, -1), true);
        DUE.due("river", x.reach(0, 4), -1);
        DUE.due("rivers", x.has(2), 2);
        DUE.due("undo", x.undo(), true);
        DUE.due("river", x.reach(0, 4), 0);
    }

    /** Behind chances and images all answers are those of the net of now. */
    private static void answersOfNow() {
        RiverRanks x = Due.rivers("abcd a>b8+1 b>c9 c>d5");
        int seed = 0;
        for (int tried = 1; tried < 100000 && seed == 0; tried++) {
            Draws draws = new Draws(tried);
            if (draws.of(4) == 1 && draws.of(3) == 0 && draws.of(100) == 40) {
                seed = tried;
            }
        }
        DUE.due("there is such a seed", seed > 0, true);
        x.seed(seed);
        DUE.due("chance", x.chance(1), 3);
        DUE.due("yield", x.reach(0, 3), 40);
        DUE.due("flow", x.has(8), 40);
        for (int kind = 0; kind < 4; kind++) {
            DUE.due("changed", x.changed(kind), 0);
        }
        DUE.due("undo", x.undo(), true);
        DUE.due("flow", x.has(8), 1);
        int[] other = {3, 2, 0, 2, 5, 7, 255, 1, 2, 5, 6, 255, 0};
        other[12] = check(other);
        Due.tape(x, other);
        DUE.due("on", x.on(), true);
        DUE.due("flow", x.has(8), 13);
        DUE.due("sources", x.has(3), 2);
        DUE.due("up", x.beyond(2, 0), Due.bits(0, 1));
        DUE.due("stems", x.stems(0, 0), 2);
    }

    /** The draws of the document, in numbers that do not wrap. */
    private static final class Draws {
        private long x;

        Draws(long seed) {
            x = seed;
        }

        int of(int m) {
            x = (1103515245L * x + 12345L) % (1L << 31);
            return (int) (x / 64 % m);
        }
    }

    private static void chances() {
        RiverRanks x = Due.rivers("abcd a>b8 b>c9 c>d5");
        DUE.due("0", x.chance(0), -1);
        DUE.due("41", x.chance(41), -1);
        DUE.due("below", x.chance(-1), -1);
        DUE.due("status", x.status(3), 3);
        DUE.due("without reaches", Due.of("places a,b;").chance(1), -1);
        for (int seed : new int[] {0, 1, 2, 3, 5, 77, 4096, 123456789, Integer.MAX_VALUE}) {
            RiverRanks one = Due.rivers("abcd a>b8 b>c9 c>d5");
            RiverRanks other = Due.rivers("abcd a>b8 b>c9 c>d5");
            if (seed != 1) {
                DUE.due("seed", one.seed(seed), true);
            }
            int reaches = one.chance(40);
            byHand(other, new Draws(seed), 40);
            DUE.due("reaches", reaches, other.has(1));
            same("seed " + seed, one, other);
            DUE.due("one act", one.has(6), 1);
            DUE.due("undo", one.undo(), true);
            same("undone", one, Due.rivers("abcd a>b8 b>c9 c>d5"));
        }
        // The seed goes on, and is not undone.
        RiverRanks one = Due.rivers("abcd a>b8 b>c9 c>d5");
        RiverRanks other = Due.rivers("abcd a>b8 b>c9 c>d5");
        one.seed(9);
        one.chance(3);
        one.undo();
        one.chance(5);
        Draws draws = new Draws(9);
        byHand(other, draws, 3);
        other = Due.rivers("abcd a>b8 b>c9 c>d5");
        byHand(other, draws, 5);
        same("goes on", one, other);
    }

    private static void byHand(RiverRanks x, Draws draws, int times) {
        for (int i = 0; i < times; i++) {
            int what = draws.of(4);
            int reach = draws.of(x.has(1));
            if (what == 0) {
                x.turn(reach);
            } else if (what == 1) {
                x.gives(reach, draws.of(100));
            } else if (what == 2) {
                x.cut(reach, x.reach(reach, 2) / 2);
            } else {
                x.add(x.reach(reach, 1), draws.of(x.has(0)), 10, 0);
            }
        }
    }

    private static void same(String what, RiverRanks one, RiverRanks other) {
        int many = one.image();
        DUE.due(what, other.image(), many);
        for (int k = 0; k < many; k++) {
            DUE.due(what + " byte " + k, one.octet(k), other.octet(k));
        }
    }

    private static void undoes() {
        RiverRanks x = Due.rivers("ab a>b4");
        DUE.due("none", x.undo(), false);
        for (int i = 1; i <= 25; i++) {
            DUE.due("gives", x.gives(0, i), true);
            DUE.due("acts", x.has(6), Math.min(i, 20));
        }
        for (int i = 24; i >= 5; i--) {
            DUE.due("undo", x.undo(), true);
            DUE.due("yield", x.reach(0, 3), i);
            DUE.due("acts", x.has(6), i - 5);
        }
        DUE.due("none", x.undo(), false);
        DUE.due("yield", x.reach(0, 3), 5);
        DUE.due("status", x.status(4), 2);
        // Acts that were refused are none.
        x.gives(0, 5);
        x.drop(7);
        DUE.due("acts", x.has(6), 0);
        // Undone and done anew, across the row's end.
        for (int i = 30; i < 60; i++) {
            x.gives(0, i);
            if (i % 3 == 0) {
                x.undo();
            }
        }
        DUE.due("yield", x.reach(0, 3), 59);
        DUE.due("acts", x.has(6), 20);
        int[] back = {58, 56, 55, 53};
        for (int due : back) {
            x.undo();
            DUE.due("yield", x.reach(0, 3), due);
        }
    }

    private static int[] bytesOf(RiverRanks x) {
        int[] bytes = new int[x.image()];
        for (int k = 0; k < bytes.length; k++) {
            bytes[k] = x.octet(k);
        }
        return bytes;
    }

    private static int check(int[] bytes) {
        int c = 191;
        for (int k = 0; k < bytes.length - 1; k++) {
            c = (3 * c + bytes[k]) % 251;
        }
        return c;
    }

    private static void images() {
        RiverRanks x = Due.rivers("abc a>b4+9=x b>c99=y a>c1+99");
        DUE.due("no image", x.octet(0), -1);
        DUE.due("image", x.image(), 18);
        int[] due = {3, 3, 0, 1, 4, 9, 0, 1, 2, 99, 0, 1, 0, 2, 1, 99, 255, 0};
        due[17] = check(due);
        for (int k = 0; k < due.length; k++) {
            DUE.due("octet " + k, x.octet(k), due[k]);
        }
        DUE.due("behind", x.octet(18), -1);
        DUE.due("ahead", x.octet(-1), -1);
        x.gives(0, 50);
        DUE.due("of the latest image", x.octet(5), 9);
        Due.tape(x, due);
        DUE.due("on", x.on(), true);
        DUE.due("acts", x.has(6), 0);
        DUE.due("undo", x.undo(), false);
        DUE.due("changed", x.changed(0), -1);
        DUE.due("yield", x.reach(0, 3), 9);
        DUE.due("river", x.reach(2, 4), -1);
        DUE.due("no name", x.letter(0, 0, 0), 0);
        DUE.due("rivers stay", x.letter(1, 1, 0), 25);
        DUE.due("the tape is gone", x.feed(0, 0, 0, 0, 0), 20);
        // Places alone.
        int[] alone = {20, 0, 0};
        alone[2] = check(alone);
        Due.tape(x, alone);
        DUE.due("on", x.on(), true);
        DUE.due("places", x.has(0), 20);
        DUE.due("reaches", x.has(1), 0);
        DUE.due("rivers", x.has(2), 2);
        // The fullest.
        x = Due.rivers("ab a>b1");
        for (int i = 1; i < 30; i++) {
            x.add(0, 1, 99, 99);
        }
        int[] full = bytesOf(x);
        DUE.due("full", full.length, 153);
        RiverRanks y = new RiverRanks();
        Due.tape(y, full);
        DUE.due("on", y.on(), true);
        same("full", x, y);
    }

    private static void wrongImage(RiverRanks x, String what, boolean checked, int... bytes) {
        int[] copy = bytes.clone();
        if (checked) {
            copy[copy.length - 1] = check(copy);
        }
        int refused = x.status(5);
        Due.tape(x, copy);
        DUE.due(what, x.on(), false);
        DUE.due(what + ": refused", x.status(5), refused + 1);
        DUE.due(what + ": tape", x.end(1), false);
        DUE.due(what + ": acts", x.has(6), 1);
        DUE.due(what + ": places", x.has(0), 3);
        DUE.due(what + ": name", x.letter(0, 2, 0), 3);
        DUE.due(what + ": changed", x.changed(0), 0);
    }

    private static void wrongImages() {
        RiverRanks x = Due.rivers("abc a>b4+9=x b>c99=y a>c1+99");
        x.gives(0, 8);
        wrongImage(x, "empty", false);
        wrongImage(x, "one byte", true, 0);
        wrongImage(x, "two bytes", true, 1, 0);
        wrongImage(x, "no places", true, 0, 0, 0);
        wrongImage(x, "21 places", true, 21, 0, 0);
        wrongImage(x, "a byte more", true, 2, 0, 0, 0);
        wrongImage(x, "a reach less", true, 2, 1, 0);
        wrongImage(x, "head", true, 2, 1, 2, 1, 5, 5, 255, 0);
        wrongImage(x, "foot", true, 2, 1, 0, 2, 5, 5, 255, 0);
        wrongImage(x, "itself", true, 2, 1, 1, 1, 5, 5, 255, 0);
        wrongImage(x, "length 0", true, 2, 1, 0, 1, 0, 5, 255, 0);
        wrongImage(x, "length 100", true, 2, 1, 0, 1, 100, 5, 255, 0);
        wrongImage(x, "yield 100", true, 2, 1, 0, 1, 5, 100, 255, 0);
        wrongImage(x, "river", true, 2, 1, 0, 1, 5, 5, 2, 0);
        wrongImage(x, "river 254", true, 2, 1, 0, 1, 5, 5, 254, 0);
        wrongImage(x, "a ring", true, 3, 3, 0, 1, 5, 5, 255, 1, 2, 5, 5, 255, 2, 0, 5, 5, 255, 0);
        wrongImage(x, "two make a ring", true, 2, 2, 0, 1, 5, 5, 255, 1, 0, 5, 5, 255, 0);
        int[] fine = {2, 1, 0, 1, 5, 5, 1, 0};
        fine[7] = (check(fine) + 1) % 251;
        wrongImage(x, "check", false, fine);
        fine[7] = check(fine);
        Due.tape(x, fine);
        DUE.due("fine", x.on(), true);
        int[] many = new int[2 + 5 * 31 + 1];
        many[0] = 2;
        many[1] = 31;
        for (int r = 0; r < 31; r++) {
            many[3 + 5 * r] = 1;
            many[4 + 5 * r] = 1;
            many[6 + 5 * r] = 255;
        }
        many[many.length - 1] = check(many);
        Due.tape(x, many);
        DUE.due("31 reaches", x.on(), false);
    }

    private static void refusals() {
        RiverRanks x = new RiverRanks();
        x.end(1);
        x.net();
        x.see();
        x.add(0, 1, 1, 1);
        x.drop(0);
        x.cut(0, 1);
        x.turn(0);
        x.gives(0, 0);
        x.call(0, 0);
        x.chance(1);
        x.undo();
        DUE.due("seed", x.seed(-1), false);
        DUE.due("seed", x.seed(Integer.MIN_VALUE), false);
        DUE.due("seed", x.seed(0), true);
        DUE.due("seed", x.seed(Integer.MAX_VALUE), true);
        DUE.due("on", x.on(), false);
        int[] due = {1, 2, 3, 4, 1, 3};
        for (int what = 0; what < due.length; what++) {
            DUE.due("status " + what, x.status(what), due[what]);
        }
        DUE.due("others", x.status(6), -1);
        DUE.due("others", x.status(-1), -1);
    }
}
