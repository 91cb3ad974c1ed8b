import java.util.ArrayList;
import java.util.Arrays;
import java.util.HashMap;
import java.util.HashSet;
import java.util.LinkedHashMap;
import java.util.List;
import java.util.Map;
import java.util.Set;
import java.util.TreeMap;
import java.util.TreeSet;

/** A net told by the document's words alone, by trying all ways; for comparison, not for speed. */
final class Slow {
    static final int NONE = -1;

    record Reach(int head, int foot, int length, int gift, int river) {
    }

    final int places;
    final List<Reach> reaches;
    private final Map<Integer, Integer> flows = new HashMap<>();
    private final Map<Integer, Integer> mets = new HashMap<>();

    Slow(int places, List<Reach> reaches) {
        this.places = places;
        this.reaches = List.copyOf(reaches);
    }

    /** The net that an object has, as its own calls tell it. */
    static Slow of(RiverRanks x) {
        List<Reach> reaches = new ArrayList<>();
        for (int r = 0; r < x.has(1); r++) {
            reaches.add(new Reach(x.reach(r, 0), x.reach(r, 1), x.reach(r, 2), x.reach(r, 3), x.reach(r, 4)));
        }
        return new Slow(x.has(0), reaches);
    }

    List<Integer> to(int place) {
        List<Integer> found = new ArrayList<>();
        for (int r = 0; r < reaches.size(); r++) {
            if (reaches.get(r).foot() == place) {
                found.add(r);
            }
        }
        return found;
    }

    List<Integer> from(int place) {
        List<Integer> found = new ArrayList<>();
        for (int r = 0; r < reaches.size(); r++) {
            if (reaches.get(r).head() == place) {
                found.add(r);
            }
        }
        return found;
    }

    boolean isSource(int place) {
        return !from(place).isEmpty() && to(place).isEmpty();
    }

    boolean isMouth(int place) {
        return from(place).isEmpty() && !to(place).isEmpty();
    }

    Set<Integer> where(boolean sources) {
        Set<Integer> found = new TreeSet<>();
        for (int p = 0; p < places; p++) {
            if (sources ? isSource(p) : isMouth(p)) {
                found.add(p);
            }
        }
        return found;
    }

    Set<Integer> down(int place) {
        Set<Integer> found = new TreeSet<>();
        List<Integer> open = new ArrayList<>(List.of(place));
        while (!open.isEmpty()) {
            int p = open.remove(open.size() - 1);
            for (int r : from(p)) {
                if (found.add(reaches.get(r).foot())) {
                    open.add(reaches.get(r).foot());
                }
            }
        }
        return found;
    }

    Set<Integer> up(int place) {
        Set<Integer> found = new TreeSet<>();
        for (int p = 0; p < places; p++) {
            if (down(p).contains(place)) {
                found.add(p);
            }
        }
        return found;
    }

    static int bits(Set<Integer> some) {
        int bits = 0;
        for (int p : some) {
            bits += 1 << p;
        }
        return bits;
    }

    int comes(int place) {
        int sum = 0;
        for (int r : to(place)) {
            sum += flow(r);
        }
        return sum;
    }

    int flow(int reach) {
        Integer known = flows.get(reach);
        if (known != null) {
            return known;
        }
        int head = reaches.get(reach).head();
        List<Integer> outs = from(head);
        int[] shares = new int[outs.size()];
        // Handed out drop by drop.
        for (int drop = 0; drop < comes(head); drop++) {
            shares[drop % shares.length]++;
        }
        int flow = reaches.get(reach).gift() + shares[outs.indexOf(reach)];
        flows.put(reach, flow);
        return flow;
    }

    int atMouths(Set<Integer> mouths) {
        int sum = 0;
        for (int p : mouths) {
            sum += comes(p);
        }
        return sum;
    }

    Set<Integer> springs(int reach) {
        int head = reaches.get(reach).head();
        Set<Integer> found = new TreeSet<>();
        for (int p : where(true)) {
            if (p == head || down(p).contains(head)) {
                found.add(p);
            }
        }
        return found;
    }

    int met(int reach) {
        Integer known = mets.get(reach);
        if (known != null) {
            return known;
        }
        int head = reaches.get(reach).head();
        int rank = 1;
        if (!isSource(head)) {
            TreeMap<Integer, List<Integer>> byRank = new TreeMap<>();
            for (int r : to(head)) {
                byRank.computeIfAbsent(met(r), k -> new ArrayList<>()).add(r);
            }
            rank = byRank.lastKey();
            boolean more = false;
            for (int one : byRank.lastEntry().getValue()) {
                for (int other : byRank.lastEntry().getValue()) {
                    Set<Integer> common = springs(one);
                    common.retainAll(springs(other));
                    more |= one != other && common.isEmpty();
                }
            }
            rank += more ? 1 : 0;
        }
        mets.put(reach, rank);
        return rank;
    }

    int greatestMet() {
        int greatest = 0;
        for (int r = 0; r < reaches.size(); r++) {
            greatest = Math.max(greatest, met(r));
        }
        return greatest;
    }

    /** All ways from a place to another, as rows of reaches. */
    List<List<Integer>> ways(int from, int to) {
        List<List<Integer>> found = new ArrayList<>();
        if (from == to) {
            found.add(List.of());
            return found;
        }
        for (int r : from(from)) {
            for (List<Integer> rest : ways(reaches.get(r).foot(), to)) {
                List<Integer> way = new ArrayList<>(List.of(r));
                way.addAll(rest);
                found.add(way);
            }
        }
        return found;
    }

    int lengthOf(List<Integer> way) {
        int sum = 0;
        for (int r : way) {
            sum += reaches.get(r).length();
        }
        return sum;
    }

    int far(int from, int to, boolean most) {
        int best = NONE;
        for (List<Integer> way : ways(from, to)) {
            int sum = lengthOf(way);
            if (best == NONE || (most ? sum > best : sum < best)) {
                best = sum;
            }
        }
        return best;
    }

    int mostFromSource(int place) {
        int most = 0;
        for (int s : where(true)) {
            most = Math.max(most, far(s, place, true));
        }
        return most;
    }

    int mostToMouth(int place) {
        int most = 0;
        for (int m : where(false)) {
            most = Math.max(most, far(place, m, true));
        }
        return most;
    }

    int mainIn(int place, int way) {
        if (way == 2) {
            int out = mainOut(place, 0);
            if (out != NONE && reaches.get(out).river() != NONE) {
                for (int r : to(place)) {
                    if (reaches.get(r).river() == reaches.get(out).river()) {
                        return r;
                    }
                }
            }
            return mainIn(place, 0);
        }
        int best = NONE;
        int most = -1;
        for (int r : to(place)) {
            int weight = way == 0 ? flow(r) : reaches.get(r).length() + mostFromSource(reaches.get(r).head());
            if (weight > most) {
                most = weight;
                best = r;
            }
        }
        return best;
    }

    int mainOut(int place, int way) {
        if (way == 2) {
            int in = mainIn(place, 0);
            if (in != NONE && reaches.get(in).river() != NONE) {
                for (int r : from(place)) {
                    if (reaches.get(r).river() == reaches.get(in).river()) {
                        return r;
                    }
                }
            }
        }
        int best = NONE;
        int most = -1;
        for (int r : from(place)) {
            if (flow(r) > most) {
                most = flow(r);
                best = r;
            }
        }
        return best;
    }

    int next(int reach, int way) {
        int place = reaches.get(reach).foot();
        return mainIn(place, way) == reach ? mainOut(place, way) : NONE;
    }

    int before(int reach, int way) {
        int place = reaches.get(reach).head();
        return mainOut(place, way) == reach ? mainIn(place, way) : NONE;
    }

    List<Integer> stem(int reach, int way) {
        List<Integer> stem = new ArrayList<>(List.of(reach));
        for (int r = before(reach, way); r != NONE; r = before(r, way)) {
            stem.add(0, r);
        }
        for (int r = next(reach, way); r != NONE; r = next(r, way)) {
            stem.add(r);
        }
        return stem;
    }

    /** Each stem by its top. */
    Map<Integer, List<Integer>> stems(int way) {
        Map<Integer, List<Integer>> found = new TreeMap<>();
        for (int r = 0; r < reaches.size(); r++) {
            List<Integer> stem = stem(r, way);
            found.put(stem.get(0), stem);
        }
        return found;
    }

    int branch(int reach, int way) {
        List<Integer> stem = stem(reach, way);
        int lowest = reaches.get(stem.get(stem.size() - 1)).foot();
        if (isMouth(lowest)) {
            return 1;
        }
        int least = Integer.MAX_VALUE;
        for (int r : from(lowest)) {
            least = Math.min(least, branch(r, way));
        }
        return 1 + least;
    }

    int crown(int reach, int way) {
        int greatest = 0;
        for (int r : stem(reach, way)) {
            greatest = Math.max(greatest, met(r));
        }
        return greatest;
    }

    int rank(int reach, int kind, int way) {
        switch (kind) {
            case 0:
                return met(reach);
            case 1:
                return springs(reach).size();
            case 2:
                return branch(reach, way);
            default:
                return crown(reach, way);
        }
    }

    List<Integer> longestStem(int way) {
        List<Integer> best = null;
        for (List<Integer> stem : stems(way).values()) {
            if (best == null || lengthOf(stem) > lengthOf(best)) {
                best = stem;
            }
        }
        return best;
    }

    int waters(int one, int other) {
        Set<Integer> common = down(one);
        common.add(one);
        Set<Integer> others = down(other);
        others.add(other);
        common.retainAll(others);
        for (int p : common) {
            boolean nearest = true;
            for (int q : common) {
                nearest &= q == p || !down(q).contains(p);
            }
            if (nearest) {
                return p;
            }
        }
        return NONE;
    }

    int braid(int place) {
        if (from(place).size() < 2) {
            return NONE;
        }
        List<Integer> common = null;
        for (int m : where(false)) {
            for (List<Integer> way : ways(place, m)) {
                List<Integer> through = new ArrayList<>();
                for (int r : way) {
                    through.add(reaches.get(r).foot());
                }
                if (common == null) {
                    common = through;
                } else {
                    common.retainAll(through);
                }
            }
        }
        return common == null || common.isEmpty() ? NONE : common.get(0);
    }

    /** Streams of a rank, by spreading from each reach that none holds yet. */
    int streams(int rank) {
        Set<Integer> held = new HashSet<>();
        int many = 0;
        for (int r = 0; r < reaches.size(); r++) {
            if (met(r) != rank || held.contains(r)) {
                continue;
            }
            many++;
            List<Integer> open = new ArrayList<>(List.of(r));
            held.add(r);
            while (!open.isEmpty()) {
                int at = open.remove(0);
                List<Integer> beside = new ArrayList<>(from(reaches.get(at).foot()));
                beside.addAll(to(reaches.get(at).head()));
                for (int s : beside) {
                    if (met(s) == rank && held.add(s)) {
                        open.add(s);
                    }
                }
            }
        }
        return many;
    }

    List<Integer> called(int river) {
        List<Integer> found = new ArrayList<>();
        for (int r = 0; r < reaches.size(); r++) {
            if (reaches.get(r).river() == river) {
                found.add(r);
            }
        }
        return found;
    }

    boolean isTorn(int river) {
        List<Integer> left = called(river);
        return !left.isEmpty() && !inARow(NONE, left);
    }

    private boolean inARow(int at, List<Integer> left) {
        if (left.isEmpty()) {
            return true;
        }
        for (int r : left) {
            if (at == NONE || reaches.get(r).head() == at) {
                List<Integer> rest = new ArrayList<>(left);
                rest.remove((Integer) r);
                if (inARow(reaches.get(r).foot(), rest)) {
                    return true;
                }
            }
        }
        return false;
    }

    boolean hasRing() {
        for (int p = 0; p < places; p++) {
            if (down(p).contains(p)) {
                return true;
            }
        }
        return false;
    }

    Slow with(List<Reach> others) {
        return new Slow(places, others);
    }

    Slow turned(int reach) {
        List<Reach> others = new ArrayList<>(reaches);
        Reach r = reaches.get(reach);
        others.set(reach, new Reach(r.foot(), r.head(), r.length(), r.gift(), r.river()));
        return with(others);
    }

    Slow without(int reach) {
        List<Reach> others = new ArrayList<>(reaches);
        others.remove(reach);
        return with(others);
    }

    int loss(int reach) {
        Set<Integer> mouths = where(false);
        return atMouths(mouths) - without(reach).atMouths(mouths);
    }

    /** By trying all sets of reaches that lie up of the place, the small ones first. */
    int fewest(int place) {
        Set<Integer> sources = where(true);
        List<Integer> useful = new ArrayList<>();
        for (int r = 0; r < reaches.size(); r++) {
            int foot = reaches.get(r).foot();
            if (foot == place || down(foot).contains(place)) {
                useful.add(r);
            }
        }
        for (int many = 0; many <= useful.size(); many++) {
            if (cutsOff(sources, place, useful, 0, many, new HashSet<>())) {
                return many;
            }
        }
        return NONE;
    }

    private boolean cutsOff(Set<Integer> sources, int place, List<Integer> useful, int from, int many,
            Set<Integer> gone) {
        if (many == 0) {
            return !isReached(sources, place, gone);
        }
        for (int i = from; i < useful.size(); i++) {
            gone.add(useful.get(i));
            if (cutsOff(sources, place, useful, i + 1, many - 1, gone)) {
                return true;
            }
            gone.remove(useful.get(i));
        }
        return false;
    }

    private boolean isReached(Set<Integer> sources, int place, Set<Integer> gone) {
        Set<Integer> come = new HashSet<>(sources);
        List<Integer> open = new ArrayList<>(sources);
        while (!open.isEmpty()) {
            for (int r : from(open.remove(0))) {
                if (!gone.contains(r) && come.add(reaches.get(r).foot())) {
                    open.add(reaches.get(r).foot());
                }
            }
        }
        return come.contains(place);
    }

    /** Hours at which waves come to a place, and how many at each. */
    TreeMap<Integer, Integer> waves(int place) {
        TreeMap<Integer, Integer> found = new TreeMap<>();
        for (int s : where(true)) {
            int at = s;
            int hour = 0;
            while (true) {
                if (at == place) {
                    found.merge(hour, 1, Integer::sum);
                }
                int out = mainOut(at, 0);
                if (out == NONE) {
                    break;
                }
                hour += reaches.get(out).length();
                at = reaches.get(out).foot();
            }
        }
        return found;
    }

    int wave(int place, int what) {
        TreeMap<Integer, Integer> hours = waves(place);
        if (what == 3) {
            int many = 0;
            for (int n : hours.values()) {
                many += n;
            }
            return many;
        }
        if (hours.isEmpty()) {
            return NONE;
        }
        int most = 0;
        int hour = NONE;
        for (Map.Entry<Integer, Integer> e : hours.entrySet()) {
            if (e.getValue() > most) {
                most = e.getValue();
                hour = e.getKey();
            }
        }
        return what == 0 ? most : what == 1 ? hour : hours.lastKey();
    }

    Set<Integer> fits(int[] seen) {
        Set<Integer> found = new TreeSet<>();
        for (int p = 0; p < places; p++) {
            Set<Integer> wet = down(p);
            wet.add(p);
            boolean fits = true;
            for (int i = 0; i < seen.length; i += 2) {
                fits &= wet.contains(reaches.get(seen[i]).head()) == (seen[i + 1] == 1);
            }
            if (fits) {
                found.add(p);
            }
        }
        return found;
    }

    /** The telling reach and how many fits are left at the most. */
    int[] tells(int[] seen) {
        Set<Integer> fits = fits(seen);
        int[] best = {NONE, NONE};
        for (int r = 0; r < reaches.size(); r++) {
            int yes = 0;
            int head = reaches.get(r).head();
            for (int p : fits) {
                yes += p == head || down(p).contains(head) ? 1 : 0;
            }
            int most = Math.max(yes, fits.size() - yes);
            if (best[0] == NONE || most < best[1]) {
                best = new int[] {r, most};
            }
        }
        return best;
    }

    int[] image() {
        int[] bytes = new int[2 + 5 * reaches.size() + 1];
        bytes[0] = places;
        bytes[1] = reaches.size();
        int at = 2;
        for (Reach r : reaches) {
            bytes[at++] = r.head();
            bytes[at++] = r.foot();
            bytes[at++] = r.length();
            bytes[at++] = r.gift();
            bytes[at++] = r.river() == NONE ? 255 : r.river();
        }
        int c = 191;
        for (int k = 0; k < at; k++) {
            c = (3 * c + bytes[k]) % 251;
        }
        bytes[at] = c;
        return bytes;
    }

    /** How many reaches of like numbers have unlike ranks, by kinds. */
    int[] changed(Slow behind) {
        int[] many = new int[4];
        for (int r = 0; r < Math.min(reaches.size(), behind.reaches.size()); r++) {
            for (int kind = 0; kind < 4; kind++) {
                many[kind] += rank(r, kind, 0) == behind.rank(r, kind, 0) ? 0 : 1;
            }
        }
        return many;
    }

    /** What a text tells: statements, fault, where; by whole words found ahead of time. */
    static int[] read(String text) {
        return new Words(text).read();
    }

    /** A text as words, numbers and signs, each with where it begins. */
    private static final class Words {
        private static final List<String> OWN = Arrays.asList("places", "reach", "to", "long", "yields", "called");

        private final List<String> words = new ArrayList<>();
        private final List<Integer> starts = new ArrayList<>();
        private final Map<String, Integer> names = new LinkedHashMap<>();
        private final Set<String> rivers = new HashSet<>();
        private final List<Reach> laid = new ArrayList<>();
        private int[] fault;
        private int at;

        Words(String text) {
            java.util.regex.Matcher m = java.util.regex.Pattern.compile("[a-z]+|[0-9]+|[^ \\n]", java.util.regex.Pattern.DOTALL)
                .matcher(text);
            while (m.find()) {
                words.add(m.group());
                starts.add(m.start());
            }
            words.add("");
            starts.add(text.length());
        }

        int[] read() {
            int statements = 0;
            want("places");
            do {
                if (names.size() == 20 && !word().isEmpty()) {
                    fail(5, start());
                }
                int where = start();
                String name = name();
                if (names.containsKey(name)) {
                    fail(3, where);
                }
                names.put(name, names.size());
            } while (fault == null && take(","));
            want(";");
            statements++;
            while (fault == null && !word().isEmpty()) {
                reach();
                statements++;
            }
            return fault != null ? fault : new int[] {statements, 0, NONE};
        }

        private void reach() {
            int where = start();
            want("reach");
            if (laid.size() == 30) {
                fail(5, where);
            }
            int head = place();
            want("to");
            where = start();
            int foot = place();
            if (fault == null) {
                laid.add(new Reach(head, foot, 1, 0, NONE));
                if (new Slow(20, laid).hasRing()) {
                    fail(4, where);
                }
            }
            want("long");
            where = start();
            if (number() == 0) {
                fail(2, where);
            }
            if (take("yields")) {
                number();
            }
            if (take("called")) {
                where = start();
                String name = name();
                if (fault == null && rivers.size() == 10 && !rivers.contains(name)) {
                    fail(5, where);
                }
                rivers.add(name);
            }
            want(";");
        }

        private String word() {
            return words.get(at);
        }

        private int start() {
            return starts.get(at);
        }

        /** The last, empty word is the text's end; there is nothing behind it. */
        private void step() {
            at = Math.min(at + 1, words.size() - 1);
        }

        /** Keeps the first along the text. */
        private void fail(int which, int where) {
            if (fault == null || where < fault[2]) {
                fault = new int[] {NONE, which, where};
            }
        }

        private void want(String word) {
            if (!take(word)) {
                fail(1, start());
            }
        }

        private boolean take(String word) {
            boolean beside = at > 0 && Character.isLetterOrDigit(word.charAt(0))
                && starts.get(at - 1) + words.get(at - 1).length() == start()
                && words.get(at - 1).matches("[a-z0-9]+");
            if (beside || !word().equals(word)) {
                return false;
            }
            step();
            return true;
        }

        private String name() {
            String name = word();
            if (!name.matches("[a-z]+") || OWN.contains(name)) {
                fail(1, start());
            } else if (name.length() > 6) {
                fail(1, start() + 6);
            }
            step();
            return name;
        }

        private int place() {
            int where = start();
            String name = name();
            if (fault == null && !names.containsKey(name)) {
                fail(3, where);
            }
            return names.getOrDefault(name, 0);
        }

        private int number() {
            String number = word();
            boolean beside = at > 0 && starts.get(at - 1) + words.get(at - 1).length() == start();
            if (beside || !number.matches("[0-9]+")) {
                fail(1, start());
                step();
                return NONE;
            }
            if (number.length() > 2) {
                fail(1, start() + 2);
                step();
                return NONE;
            }
            step();
            return Integer.parseInt(number);
        }
    }
}
