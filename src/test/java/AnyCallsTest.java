import java.lang.management.ManagementFactory;
import java.util.Random;

/** Calls with any arguments in any state: none throws, and none but the constructor takes room. */
final class AnyCallsTest {
    private static final Due DUE = new Due();
    private static final int[] EDGES = {Integer.MIN_VALUE, -1000, -3, -2, 20, 21, 29, 30, 31, 32, 64, 99, 100, 255, 256,
        1600, 1601, Integer.MAX_VALUE};

    public static void main(String[] args) {
        for (int seed = 0; seed < 400; seed++) {
            run(RandomRunsTest.source(seed));
        }
        full();
        room();
        DUE.close("AnyCallsTest");
    }

    private static int any(Random random) {
        return random.nextInt(6) == 0 ? EDGES[random.nextInt(EDGES.length)] : random.nextInt(13) - 1;
    }

    private static void run(Random random) {
        RiverRanks x = new RiverRanks();
        int[] a = new int[5];
        for (int i = 0; i < 512; i++) {
            if (random.nextInt(60) == 0) {
                Due.net(x, RandomRunsTest.randomText(random));
            }
            for (int k = 0; k < a.length; k++) {
                a[k] = any(random);
            }
            int call = random.nextInt(45);
            try {
                make(x, call, a);
            } catch (RuntimeException e) {
                DUE.due("call " + call + " threw " + e, 1, 0);
            }
            int reaches = x.has(1);
            DUE.due("places", x.has(0) >= 0 && x.has(0) <= 20, true);
            DUE.due("reaches", reaches >= 0 && reaches <= 30, true);
        }
    }

    /** As many places and reaches as can be, every place and reach asked for; each run on a new object. */
    private static void full() {
        for (int call = 0; call < 45; call++) {
            for (int one = -1; one <= 30; one++) {
                RiverRanks x = Due.rivers(fullText());
                DUE.due("places", x.has(0), 20);
                DUE.due("reaches", x.has(1), 30);
                int[] a = {one, 1, 1, 1, 1};
                try {
                    for (int other = -1; other <= 20; other++) {
                        a[1] = other;
                        make(x, call, a);
                    }
                    x.drop(one);
                    x.undo();
                } catch (RuntimeException e) {
                    DUE.due("call " + call + " of " + one + " threw " + e, 1, 0);
                }
            }
        }
    }

    private static String fullText() {
        StringBuilder told = new StringBuilder();
        for (char c = 'a'; c < 'u'; c++) {
            told.append(c);
        }
        // The places are numbered from the mouth up, so that each look takes the most rounds.
        for (char c = 'a'; c < 't'; c++) {
            told.append(' ').append((char) (c + 1)).append('>').append(c).append("9+1");
        }
        for (char c = 'a'; c < 'l'; c++) {
            told.append(' ').append((char) (c + 2)).append('>').append(c).append("7+2");
        }
        return told.toString();
    }

    private static int make(RiverRanks x, int call, int[] a) {
        return call < 22 ? ask(x, call, a) : act(x, call, a);
    }

    private static int ask(RiverRanks x, int call, int[] a) {
        switch (call) {
            case 0: return x.fault(a[0]);
            case 1: return x.has(a[0]);
            case 2: return x.letter(a[0], a[1], a[2]);
            case 3: return x.reach(a[0], a[1]);
            case 4: return x.place(a[0], a[1]);
            case 5: return x.rank(a[0], a[1], a[2]);
            case 6: return x.goes(a[0], a[1], a[2]);
            case 7: return x.stem(a[0], a[1], a[2]);
            case 8: return x.stems(a[0], a[1]);
            case 9: return x.beyond(a[0], a[1]);
            case 10: return x.springs(a[0]);
            case 11: return x.ways(a[0], a[1]);
            case 12: return x.far(a[0], a[1], a[2]);
            case 13: return x.waters(a[0], a[1]);
            case 14: return x.braid(a[0]);
            case 15: return x.streams(a[0], a[1]);
            case 16: return x.river(a[0], a[1]);
            case 17: return x.canTurn(a[0]);
            case 18: return x.would(a[0], a[1]);
            case 19: return x.loss(a[0]);
            case 20: return x.starves(a[0]);
            default: return x.fewest(a[0]);
        }
    }

    private static int act(RiverRanks x, int call, int[] a) {
        switch (call) {
            case 22: return x.wave(a[0], a[1]);
            case 23: return x.changed(a[0]);
            case 24: return x.see();
            case 25: return x.fits();
            case 26: return x.tells(a[0]);
            case 27: case 28: return x.add(a[0], a[1], a[2], a[3]);
            case 29: return x.drop(a[0]) ? 1 : 0;
            case 30: return x.cut(a[0], a[1]);
            case 31: return x.turn(a[0]) ? 1 : 0;
            case 32: return x.gives(a[0], a[1]) ? 1 : 0;
            case 33: return x.call(a[0], a[1]) ? 1 : 0;
            case 34: return x.chance(a[0]);
            case 35: return x.undo() ? 1 : 0;
            case 36: return x.seed(a[0]) ? 1 : 0;
            case 37: return x.image();
            case 38: return x.octet(a[0]);
            case 39: return x.on() ? 1 : 0;
            case 40: return x.status(a[0]);
            case 41: return x.feed(a[0], a[1], a[2], a[3], a[4]);
            case 42: return x.feed(a[0] << 24 | 1 << 16, a[1], a[2], a[3], a[4]);
            case 43: return x.end(a[0]) ? 1 : 0;
            default: return x.net();
        }
    }

    /** All calls of a run share one room, so that calls must not make objects. */
    private static void room() {
        com.sun.management.ThreadMXBean bean = (com.sun.management.ThreadMXBean) ManagementFactory.getThreadMXBean();
        long thread = Thread.currentThread().getId();
        RiverRanks x = Due.rivers("abcdefgh a>c9+9=x b>c9+4 c>d9=x d>e9 d>f9 e>g9 f>g9 g>h9=y");
        int[] a = {0, 1, 0, 0, 0};
        long sum = 0;
        long ahead = 0;
        for (int round = 0; round < 20; round++) {
            if (round == 10) {
                ahead = bean.getThreadAllocatedBytes(thread);
            }
            for (int call = 0; call < 45; call++) {
                a[0] = round % 8;
                sum += make(x, call, a);
            }
        }
        long made = bean.getThreadAllocatedBytes(thread) - ahead;
        DUE.due("room of 450 calls is small: " + made + " (" + sum + ")", made < 20000, true);
        ahead = bean.getThreadAllocatedBytes(thread);
        for (int i = 0; i < 100; i++) {
            sum += new RiverRanks().has(0);
        }
        made = (bean.getThreadAllocatedBytes(thread) - ahead) / 100;
        DUE.due("room of an object is small: " + made, made < 24000, true);
    }
}
