import java.util.ArrayDeque;
import java.util.ArrayList;
import java.util.List;
import java.util.Random;

/** Random nets, acts and texts; every answer is compared with that of the slow net. */
final class RandomRunsTest {
    private static final Due DUE = new Due();

    public static void main(String[] args) {
        int runs = args.length > 0 ? Integer.parseInt(args[0]) : 150;
        int first = args.length > 1 ? Integer.parseInt(args[1]) : 0;
        for (int seed = first; seed < first + runs && !DUE.isWrong(); seed++) {
            nets(source(seed));
            acts(source(seed));
            texts(source(seed));
        }
        DUE.close("RandomRunsTest");
    }

    /** Seeds side by side would begin with like numbers. */
    static Random source(int seed) {
        return new Random(seed * 0x9E3779B97F4A7C15L);
    }

    private static String name(int i) {
        return "" + (char) ('a' + i % 26) + (i >= 26 ? "x" : "");
    }

    static String randomText(Random random) {
        int places = 1 + random.nextInt(random.nextInt(4) == 0 ? 20 : 9);
        int reaches = random.nextInt(random.nextInt(4) == 0 ? 31 : 14);
        int rivers = 1 + random.nextInt(random.nextInt(3) == 0 ? 10 : 3);
        List<Integer> order = new ArrayList<>();
        for (int p = 0; p < places; p++) {
            order.add(random.nextInt(p + 1), p);
        }
        StringBuilder text = new StringBuilder("places ");
        for (int p = 0; p < places; p++) {
            text.append(p == 0 ? "" : ",").append(name(p));
        }
        text.append(';');
        int most = random.nextBoolean() ? 99 : 4;
        for (int r = 0; r < reaches && places > 1; r++) {
            int one = random.nextInt(places);
            int other = random.nextInt(3) == 0 ? random.nextInt(places) : Math.min(places - 1, one + 1 + random.nextInt(3));
            if (one == other) {
                continue;
            }
            text.append("reach ").append(name(order.get(Math.min(one, other))));
            text.append(" to ").append(name(order.get(Math.max(one, other))));
            text.append(" long ").append(1 + random.nextInt(most));
            if (random.nextBoolean()) {
                text.append(" yields ").append(random.nextInt(most + 1));
            }
            if (random.nextBoolean()) {
                text.append(" called ").append(name(random.nextInt(rivers)));
            }
            text.append(';');
        }
        return text.toString();
    }

    private static void nets(Random random) {
        String text = randomText(random);
        RiverRanks x = Due.of(text);
        compare(text, x, Slow.of(x), random);
    }

    private static void compare(String what, RiverRanks x, Slow slow, Random random) {
        compareCounts(what, x, slow);
        for (int p = 0; p < slow.places; p++) {
            comparePlace(what + " place " + p, x, slow, p);
        }
        for (int r = 0; r < slow.reaches.size(); r++) {
            compareReach(what + " reach " + r, x, slow, r);
        }
        for (int way = 0; way < 3; way++) {
            compareStems(what + " way " + way, x, slow, way);
        }
        compareDye(what, x, slow, random);
    }

    private static void compareCounts(String what, RiverRanks x, Slow slow) {
        DUE.due(what + " sources", x.has(3), slow.where(true).size());
        DUE.due(what + " mouths", x.has(4), slow.where(false).size());
        DUE.due(what + " all", x.has(8), slow.atMouths(slow.where(false)));
        DUE.due(what + " greatest", x.has(9), slow.greatestMet());
        int part = 0;
        for (int p = 0; p < slow.places; p++) {
            part += slow.from(p).size() > 1 ? 1 : 0;
        }
        DUE.due(what + " part", x.has(5), part);
        for (int rank = 1; rank <= 4; rank++) {
            int many = 0;
            int length = 0;
            for (int r = 0; r < slow.reaches.size(); r++) {
                many += slow.met(r) == rank ? 1 : 0;
                length += slow.met(r) == rank ? slow.reaches.get(r).length() : 0;
            }
            DUE.due(what + " streams " + rank, x.streams(rank, 0), slow.streams(rank));
            DUE.due(what + " streams " + rank, x.streams(rank, 1), many);
            DUE.due(what + " streams " + rank, x.streams(rank, 2), length);
        }
        for (int river = 0; river < x.has(2); river++) {
            List<Integer> called = slow.called(river);
            DUE.due(what + " river " + river, x.river(river, 0), called.size());
            DUE.due(what + " river " + river, x.river(river, 1), slow.lengthOf(called));
            DUE.due(what + " torn " + river, x.river(river, 2), slow.isTorn(river) ? 1 : 0);
            DUE.due(what + " river " + river, x.river(river, 3), called.isEmpty() ? -1 : called.get(0));
        }
        int[] image = slow.image();
        DUE.due(what + " image", x.image(), image.length);
        for (int k = 0; k < image.length; k++) {
            DUE.due(what + " octet", x.octet(k), image[k]);
        }
    }

    private static void comparePlace(String what, RiverRanks x, Slow slow, int p) {
        DUE.due(what + " ins", x.place(p, 0), slow.to(p).size());
        DUE.due(what + " outs", x.place(p, 1), slow.from(p).size());
        DUE.due(what + " source", x.place(p, 2), slow.isSource(p) ? 1 : 0);
        DUE.due(what + " mouth", x.place(p, 3), slow.isMouth(p) ? 1 : 0);
        DUE.due(what + " comes", x.place(p, 4), slow.comes(p));
        DUE.due(what + " from a source", x.place(p, 5), slow.mostFromSource(p));
        DUE.due(what + " to a mouth", x.place(p, 6), slow.mostToMouth(p));
        DUE.due(what + " up", x.beyond(p, 0), Slow.bits(slow.up(p)));
        DUE.due(what + " down", x.beyond(p, 1), Slow.bits(slow.down(p)));
        DUE.due(what + " braid", x.braid(p), slow.braid(p));
        if (slow.reaches.size() <= 12 || p % 5 == 0) {
            DUE.due(what + " fewest", x.fewest(p), slow.isSource(p) ? -1 : slow.fewest(p));
        }
        for (int w = 0; w < 4; w++) {
            DUE.due(what + " wave " + w, x.wave(p, w), slow.wave(p, w));
        }
        for (int q = 0; q < slow.places; q++) {
            DUE.due(what + " ways " + q, x.ways(p, q), slow.ways(p, q).size());
            DUE.due(what + " least " + q, x.far(p, q, 0), slow.far(p, q, false));
            DUE.due(what + " most " + q, x.far(p, q, 1), slow.far(p, q, true));
            DUE.due(what + " waters " + q, x.waters(p, q), slow.waters(p, q));
        }
    }

    private static void compareReach(String what, RiverRanks x, Slow slow, int r) {
        DUE.due(what + " flow", x.reach(r, 5), slow.flow(r));
        DUE.due(what + " springs", x.springs(r), Slow.bits(slow.springs(r)));
        DUE.due(what + " springs", x.reach(r, 6), slow.springs(r).size());
        DUE.due(what + " loss", x.loss(r), slow.loss(r));
        for (int kind = 0; kind < 4; kind++) {
            for (int way = 0; way < 3; way++) {
                DUE.due(what + " rank " + kind + " way " + way, x.rank(r, kind, way), slow.rank(r, kind, way));
            }
        }
        Slow turned = slow.turned(r);
        boolean can = !turned.hasRing();
        DUE.due(what + " can turn", x.canTurn(r), can ? 1 : 0);
        int unlike = 0;
        for (int s = 0; can && s < slow.reaches.size(); s++) {
            unlike += slow.met(s) == turned.met(s) ? 0 : 1;
        }
        DUE.due(what + " would 0", x.would(r, 0), can ? turned.greatestMet() : -1);
        DUE.due(what + " would 1", x.would(r, 1), can ? turned.where(false).size() : -1);
        DUE.due(what + " would 2", x.would(r, 2), can ? unlike : -1);
    }

    private static void compareStems(String what, RiverRanks x, Slow slow, int way) {
        DUE.due(what + " stems", x.stems(way, 0), slow.stems(way).size());
        List<Integer> longest = slow.longestStem(way);
        DUE.due(what + " longest", x.stems(way, 1), longest == null ? -1 : longest.size());
        DUE.due(what + " longest", x.stems(way, 2), longest == null ? -1 : slow.lengthOf(longest));
        DUE.due(what + " longest", x.stems(way, 3), longest == null ? -1 : longest.get(0));
        int worst = -1;
        for (int r = 0; r < slow.reaches.size(); r++) {
            List<Integer> stem = slow.stem(r, way);
            DUE.due(what + " goes on " + r, x.goes(r, way, 0), slow.next(r, way));
            DUE.due(what + " goes before " + r, x.goes(r, way, 1), slow.before(r, way));
            DUE.due(what + " stem " + r, x.stem(r, way, -1), stem.size());
            for (int k = 0; k <= stem.size(); k++) {
                DUE.due(what + " stem " + r + " at " + k, x.stem(r, way, k), k < stem.size() ? stem.get(k) : -1);
            }
            if (worst == -1 || slow.loss(r) > slow.loss(worst)) {
                worst = r;
            }
        }
        DUE.due(what + " starves", x.starves(0), worst);
        DUE.due(what + " starves", x.starves(1), worst == -1 ? -1 : slow.loss(worst));
    }

    private static void compareDye(String what, RiverRanks x, Slow slow, Random random) {
        int many = slow.reaches.size();
        for (int i = 0; i < 5 && many > 0; i++) {
            int at = random.nextInt(slow.places);
            int[] seen = new int[2 * (1 + random.nextInt(4))];
            for (int k = 0; k < seen.length; k += 2) {
                seen[k] = random.nextInt(many);
                int head = slow.reaches.get(seen[k]).head();
                boolean dyed = at == head || slow.down(at).contains(head);
                seen[k + 1] = dyed || random.nextInt(20) == 0 ? 1 : 0;
            }
            Due.tape(x, seen);
            DUE.due(what + " see", x.see(), seen.length / 2);
            DUE.due(what + " fits", x.fits(), Slow.bits(slow.fits(seen)));
            boolean any = !slow.fits(seen).isEmpty();
            DUE.due(what + " tells", x.tells(0), any ? slow.tells(seen)[0] : -1);
            DUE.due(what + " left", x.tells(1), any ? slow.tells(seen)[1] : -1);
        }
    }

    private static void acts(Random random) {
        RiverRanks x = Due.of(randomText(random));
        ArrayDeque<Slow> ahead = new ArrayDeque<>();
        for (int i = 0; i < 45; i++) {
            Slow before = Slow.of(x);
            int reach = random.nextInt(before.reaches.size() + 1);
            int acts = x.has(6);
            String what = "act " + i;
            if (random.nextInt(6) == 0) {
                DUE.due(what + " undo", x.undo(), !ahead.isEmpty());
                Slow due = ahead.isEmpty() ? before : ahead.removeLast();
                DUE.due(what + " undone", Slow.of(x).reaches.equals(due.reaches) && x.has(0) == due.places, true);
                DUE.due(what + " changed", x.changed(random.nextInt(4)), -1);
                continue;
            }
            boolean done = act(x, before, reach, random);
            Slow behind = Slow.of(x);
            DUE.due(what + " ring", behind.hasRing(), false);
            if (done) {
                ahead.addLast(before);
                if (ahead.size() > 20) {
                    ahead.removeFirst();
                }
                int[] changed = before.changed(behind);
                for (int kind = 0; kind < 4; kind++) {
                    DUE.due(what + " changed " + kind, x.changed(kind), changed[kind]);
                }
            } else {
                DUE.due(what + " refused", behind.reaches.equals(before.reaches) && x.has(6) == acts, true);
            }
            DUE.due(what + " acts", x.has(6), ahead.size());
        }
        Slow behind = Slow.of(x);
        if (behind.reaches.size() <= 22) {
            compare("behind acts", x, behind, random);
        }
        x.seed(random.nextInt(1 << 30));
        x.chance(1 + random.nextInt(12));
        behind = Slow.of(x);
        if (behind.reaches.size() <= 22) {
            compare("behind chances", x, behind, random);
        }
        x.undo();
        DUE.due("undone", x.has(8), Slow.of(x).atMouths(Slow.of(x).where(false)));
    }

    /** Whether the act is due not to be refused; its answer is compared here. */
    private static boolean act(RiverRanks x, Slow slow, int reach, Random random) {
        List<Slow.Reach> due = new ArrayList<>(slow.reaches);
        boolean there = reach < due.size();
        Slow.Reach r = there ? due.get(reach) : null;
        int places = slow.places;
        boolean can;
        switch (random.nextInt(6)) {
            case 0: {
                Slow.Reach laid = new Slow.Reach(random.nextInt(places + 1), random.nextInt(places + 1),
                    random.nextInt(110), random.nextInt(110), -1);
                due.add(laid);
                can = laid.head() < places && laid.foot() < places && laid.length() > 0 && laid.length() < 100
                    && laid.gift() < 100 && due.size() <= 30 && !slow.with(due).hasRing();
                DUE.due("add", x.add(laid.head(), laid.foot(), laid.length(), laid.gift()), can ? due.size() - 1 : -1);
                break;
            }
            case 1: {
                can = there && random.nextBoolean();
                DUE.due("drop", x.drop(can ? reach : due.size()), can);
                if (can) {
                    due.remove(reach);
                }
                break;
            }
            case 2: {
                int n = random.nextInt(12) - 1;
                can = there && n > 0 && n < r.length() && due.size() < 30 && places < 20;
                DUE.due("cut", x.cut(reach, n), can ? places : -1);
                if (can) {
                    due.set(reach, new Slow.Reach(r.head(), places, n, r.gift(), r.river()));
                    due.add(new Slow.Reach(places, r.foot(), r.length() - n, 0, r.river()));
                    places++;
                }
                break;
            }
            case 3: {
                can = there && !slow.turned(reach).hasRing();
                DUE.due("turn", x.turn(reach), can);
                if (can) {
                    due = new ArrayList<>(slow.turned(reach).reaches);
                }
                break;
            }
            case 4: {
                int gift = random.nextInt(110) - 5;
                can = there && gift >= 0 && gift < 100 && gift != r.gift();
                DUE.due("gives", x.gives(reach, gift), can);
                if (can) {
                    due.set(reach, new Slow.Reach(r.head(), r.foot(), r.length(), gift, r.river()));
                }
                break;
            }
            default: {
                int river = random.nextInt(x.has(2) + 3) - 2;
                can = there && river >= -1 && river < x.has(2) && river != r.river();
                DUE.due("call", x.call(reach, river), can);
                if (can) {
                    due.set(reach, new Slow.Reach(r.head(), r.foot(), r.length(), r.gift(), river));
                }
            }
        }
        if (can) {
            DUE.due("behind the act", Slow.of(x).reaches.equals(due) && x.has(0) == places, true);
        }
        return can;
    }

    private static final String[] PIECES = {"places", "reach", "to", "long", "yields", "called", " ", "\n", ",", ";", "a",
        "b", "abcdef", "abcdefg", "0", "00", "1", "99", "100", "A", "!", "", "", "\t", "" + (char) 255};

    private static void texts(Random random) {
        for (int i = 0; i < 60; i++) {
            StringBuilder text = new StringBuilder(randomText(random));
            for (int k = random.nextInt(3); k >= 0 && text.length() > 0; k--) {
                int from = random.nextInt(text.length());
                int to = Math.min(text.length(), from + random.nextInt(6));
                text.replace(from, to, PIECES[random.nextInt(PIECES.length)]);
            }
            if (random.nextInt(5) == 0) {
                text.setLength(random.nextInt(text.length() + 1));
            }
            if (text.length() > 1600) {
                continue;
            }
            int[] due = Slow.read(text.toString());
            RiverRanks x = new RiverRanks();
            DUE.due("net: " + text, Due.net(x, text.toString()), due[0]);
            DUE.due("fault: " + text, x.fault(0), due[1]);
            DUE.due("fault at: " + text, x.fault(1), due[2]);
        }
    }
}
