import java.util.Arrays;

/**
 * A net of rivers: places joined by reaches that run down, their flow, ranks, stems, braids and
 * ways, acts that change the net and can be undone, and what a dye in it tells.
 */
public final class RiverRanks {

    /** There is none; it is refused. */
    public static final int NONE = -1;

    private static final int MOST_PLACES = 20;
    private static final int MOST_REACHES = 30;
    private static final int MOST_RIVERS = 10;
    private static final int MOST_BYTES = 1600;
    private static final int MOST_LENGTH = 99;
    private static final int MOST_GIFT = 99;
    private static final int MOST_LETTERS = 6;
    private static final int MOST_DIGITS = 2;
    private static final int MOST_ROWS = 12;
    private static final int MOST_UNDONE = 20;
    private static final int MOST_TIMES = 40;
    private static final int MOST_WAYS = 1000000000;
    private static final int SEED_BITS = 0x7fffffff;

    private static final int WAYS_OF_STEMS = 3;
    private static final int BY_FLOW = 0;
    private static final int BY_LENGTH = 1;
    private static final int BY_NAMES = 2;

    private static final int KINDS = 4;
    private static final int MET = 0;
    private static final int FED = 1;
    private static final int BRANCH = 2;
    private static final int CROWN = 3;

    private static final int FAULT_TEXT = 1;
    private static final int FAULT_NUMBER = 2;
    private static final int FAULT_NAME = 3;
    private static final int FAULT_RING = 4;
    private static final int FAULT_MANY = 5;

    private static final int TAPE_REFUSED = 0;
    private static final int TOLD_REFUSED = 1;
    private static final int LAID_REFUSED = 2;
    private static final int TURNED_REFUSED = 3;
    private static final int UNDO_REFUSED = 4;
    private static final int SEED_REFUSED = 5;
    private static final int REFUSALS = 6;

    private static final int IMAGE_AHEAD = 2;
    private static final int IMAGE_REACH = 5;
    private static final int NOT_CALLED = 255;
    private static final int CHECK_FIRST = 191;
    private static final int CHECK_OF = 251;

    private final Tape tape = new Tape();
    private final Reader reader = new Reader(tape);
    private final Net land = new Net();
    private final int[] placeNames = new int[MOST_PLACES];
    private final int[] riverNames = new int[MOST_RIVERS];
    private int rivers;
    private final Figures figures = new Figures();
    private final Stems[] stemsBy = {new Stems(), new Stems(), new Stems()};
    private final History history = new History();
    private final Changes changes = new Changes();
    private final Seen seen = new Seen();
    private final Image picture = new Image();
    private final Search search = new Search();
    private final Net trial = new Net();
    private final Figures trialFigures = new Figures();
    private final int[] refused = new int[REFUSALS];
    private int chanceSeed = 1;

    public RiverRanks() {
    }

    public int feed(int a, int b, int c, int d, int e) {
        if (!tape.hasRoom()) {
            return refuse(TAPE_REFUSED);
        }
        tape.put(a);
        tape.put(b);
        tape.put(c);
        tape.put(d);
        tape.put(e);
        return tape.size;
    }

    public boolean end(int n) {
        if (n < 0 || n > tape.size) {
            refuse(TAPE_REFUSED);
            return false;
        }
        tape.size = n;
        return true;
    }

    public int net() {
        boolean whole = reader.read();
        tape.size = 0;
        if (!whole) {
            return refuse(TOLD_REFUSED);
        }
        land.copyFrom(reader.draft);
        System.arraycopy(reader.placeNames, 0, placeNames, 0, MOST_PLACES);
        System.arraycopy(reader.riverNames, 0, riverNames, 0, MOST_RIVERS);
        rivers = reader.rivers;
        seen.rows = 0;
        forgetActs();
        figure();
        return 1 + land.reaches;
    }

    public int fault(int what) {
        switch (what) {
            case 0:
                return reader.fault;
            case 1:
                return reader.faultAt;
            default:
                return NONE;
        }
    }

    public int has(int what) {
        switch (what) {
            case 0:
                return land.places;
            case 1:
                return land.reaches;
            case 2:
                return rivers;
            case 3:
                return Integer.bitCount(figures.sources);
            case 4:
                return Integer.bitCount(figures.mouths);
            case 5:
                return figures.howManyPart(land);
            case 6:
                return history.acts;
            case 7:
                return seen.rows;
            case 8:
                return figures.flows.sumAt(figures.mouths);
            case 9:
                return figures.greatestMet(land);
            default:
                return NONE;
        }
    }

    public int letter(int kind, int which, int k) {
        if (k < 0 || k >= MOST_LETTERS || which < 0) {
            return NONE;
        }
        if (kind == 0 && which < land.places) {
            return letterOf(placeNames[which], k);
        }
        if (kind == 1 && which < rivers) {
            return letterOf(riverNames[which], k);
        }
        return NONE;
    }

    public int reach(int reach, int what) {
        if (!land.isReach(reach)) {
            return NONE;
        }
        switch (what) {
            case 0:
                return land.head[reach];
            case 1:
                return land.foot[reach];
            case 2:
                return land.length[reach];
            case 3:
                return land.gift[reach];
            case 4:
                return land.river[reach];
            case 5:
                return figures.flows.flow[reach];
            case 6:
                return Integer.bitCount(figures.springs[reach]);
            default:
                return NONE;
        }
    }

    public int place(int place, int what) {
        if (!land.isPlace(place)) {
            return NONE;
        }
        switch (what) {
            case 0:
                return figures.ins[place];
            case 1:
                return figures.outs[place];
            case 2:
                return figures.sources >> place & 1;
            case 3:
                return figures.mouths >> place & 1;
            case 4:
                return figures.flows.comes[place];
            case 5:
                return figures.fromSource[place];
            case 6:
                return figures.toMouth[place];
            default:
                return NONE;
        }
    }

    public int rank(int reach, int kind, int way) {
        if (!land.isReach(reach)) {
            return NONE;
        }
        if (kind == BRANCH || kind == CROWN) {
            return isWay(way) ? rankOf(reach, kind, way) : NONE;
        }
        return rankOf(reach, kind, BY_FLOW);
    }

    // ---- stems

    public int goes(int reach, int way, int what) {
        if (!land.isReach(reach) || !isWay(way)) {
            return NONE;
        }
        switch (what) {
            case 0:
                return stemsBy[way].next[reach];
            case 1:
                return stemsBy[way].before[reach];
            default:
                return NONE;
        }
    }

    public int stem(int reach, int way, int k) {
        if (!land.isReach(reach) || !isWay(way)) {
            return NONE;
        }
        Stems stems = stemsBy[way];
        int top = stems.topOf(reach);
        return k == NONE ? stems.howMany(top) : stems.nth(top, k);
    }

    public int stems(int way, int what) {
        if (!isWay(way)) {
            return NONE;
        }
        Stems stems = stemsBy[way];
        if (what == 0) {
            return stems.howManyStems(land);
        }
        int top = stems.longest(land);
        if (top == NONE) {
            return NONE;
        }
        switch (what) {
            case 1:
                return stems.howMany(top);
            case 2:
                return stems.lengthOf(land, top);
            case 3:
                return top;
            default:
                return NONE;
        }
    }

    // ---- up, down, together

    public int beyond(int place, int what) {
        if (!land.isPlace(place)) {
            return NONE;
        }
        switch (what) {
            case 0:
                return figures.up[place];
            case 1:
                return figures.down[place];
            default:
                return NONE;
        }
    }

    public int springs(int reach) {
        return land.isReach(reach) ? figures.springs[reach] : NONE;
    }

    public int ways(int from, int to) {
        if (!land.isPlace(from) || !land.isPlace(to)) {
            return NONE;
        }
        return search.howManyWays(land, figures, from, to);
    }

    public int far(int from, int to, int what) {
        if (!land.isPlace(from) || !land.isPlace(to) || what < 0 || what > 1) {
            return NONE;
        }
        return search.lengthOfWay(land, figures, from, to, what == 1);
    }

    public int waters(int one, int other) {
        if (!land.isPlace(one) || !land.isPlace(other)) {
            return NONE;
        }
        return figures.meeting(land, one, other);
    }

    public int braid(int place) {
        if (!land.isPlace(place) || figures.outs[place] < 2) {
            return NONE;
        }
        return figures.joining(land, place);
    }

    public int streams(int rank, int what) {
        if (rank < 1) {
            return NONE;
        }
        switch (what) {
            case 0:
                return search.howManyStreams(land, figures.met, rank);
            case 1:
                return figures.howManyMet(land, rank);
            case 2:
                return figures.lengthOfMet(land, rank);
            default:
                return NONE;
        }
    }

    public int river(int river, int what) {
        if (river < 0 || river >= rivers) {
            return NONE;
        }
        switch (what) {
            case 0:
                return land.howManyCalled(river);
            case 1:
                return land.lengthCalled(river);
            case 2:
                return land.isTorn(river) ? 1 : 0;
            case 3:
                return land.firstCalled(river);
            default:
                return NONE;
        }
    }

    // ---- what would be

    public int canTurn(int reach) {
        if (!land.isReach(reach)) {
            return NONE;
        }
        return land.mayReverse(reach) ? 1 : 0;
    }

    public int would(int reach, int what) {
        if (what < 0 || what > 2 || !land.isReach(reach) || !land.mayReverse(reach)) {
            return NONE;
        }
        trial.copyFrom(land);
        trial.reverse(reach);
        trialFigures.figure(trial);
        switch (what) {
            case 0:
                return trialFigures.greatestMet(trial);
            case 1:
                return Integer.bitCount(trialFigures.mouths);
            default:
                return unlike(figures.met, trialFigures.met, land.reaches);
        }
    }

    public int loss(int reach) {
        return land.isReach(reach) ? lossOf(reach) : NONE;
    }

    public int starves(int what) {
        if (what < 0 || what > 1) {
            return NONE;
        }
        int worst = NONE;
        int most = NONE;
        for (int r = 0; r < land.reaches; r++) {
            int lost = lossOf(r);
            if (lost > most) {
                most = lost;
                worst = r;
            }
        }
        return what == 0 ? worst : most;
    }

    public int fewest(int place) {
        if (!land.isPlace(place) || (figures.sources >> place & 1) == 1) {
            return NONE;
        }
        return search.howManyApart(land, figures.sources, place);
    }

    public int wave(int place, int what) {
        if (!land.isPlace(place)) {
            return NONE;
        }
        search.sendWaves(land, figures.sources, stemsBy[BY_FLOW].mainOut, place);
        switch (what) {
            case 0:
                return search.mostAtOnce();
            case 1:
                return search.hourOfMost();
            case 2:
                return search.lastHour();
            case 3:
                return search.arrivals;
            default:
                return NONE;
        }
    }

    public int changed(int kind) {
        if (kind < 0 || kind >= KINDS || !changes.known) {
            return NONE;
        }
        return changes.howMany[kind];
    }

    // ---- what was seen

    public int see() {
        boolean told = seen.take(tape, land.reaches);
        tape.size = 0;
        return told ? seen.rows : refuse(TOLD_REFUSED);
    }

    public int fits() {
        return seen.fitting(land, figures.down);
    }

    public int tells(int what) {
        int fitting = seen.fitting(land, figures.down);
        if (fitting == NONE || fitting == 0) {
            return NONE;
        }
        int telling = figures.telling(land, fitting);
        switch (what) {
            case 0:
                return telling;
            case 1:
                return telling == NONE ? NONE : figures.leftAtMost(land, fitting, telling);
            default:
                return NONE;
        }
    }

    // ---- acts

    public int add(int from, int to, int length, int gift) {
        if (!land.mayLay(from, to, length, gift)) {
            return refuse(LAID_REFUSED);
        }
        beginAct();
        land.lay(from, to, length, gift, NONE);
        endAct();
        return land.reaches - 1;
    }

    public boolean drop(int reach) {
        if (!land.isReach(reach)) {
            refuse(LAID_REFUSED);
            return false;
        }
        beginAct();
        land.take(reach);
        endAct();
        return true;
    }

    public int cut(int reach, int n) {
        if (!land.maySplit(reach, n)) {
            return refuse(LAID_REFUSED);
        }
        beginAct();
        splitReach(reach, n);
        endAct();
        return land.places - 1;
    }

    public boolean turn(int reach) {
        if (!land.isReach(reach) || !land.mayReverse(reach)) {
            refuse(TURNED_REFUSED);
            return false;
        }
        beginAct();
        land.reverse(reach);
        endAct();
        return true;
    }

    public boolean gives(int reach, int gift) {
        if (!land.isReach(reach) || gift < 0 || gift > MOST_GIFT || land.gift[reach] == gift) {
            refuse(TURNED_REFUSED);
            return false;
        }
        beginAct();
        land.gift[reach] = gift;
        endAct();
        return true;
    }

    public boolean call(int reach, int river) {
        if (!land.isReach(reach) || river < NONE || river >= rivers || land.river[reach] == river) {
            refuse(TURNED_REFUSED);
            return false;
        }
        beginAct();
        land.river[reach] = river;
        endAct();
        return true;
    }

    public int chance(int n) {
        if (n < 1 || n > MOST_TIMES || land.reaches == 0) {
            return refuse(TURNED_REFUSED);
        }
        beginAct();
        for (int i = 0; i < n; i++) {
            actByChance();
        }
        endAct();
        return land.reaches;
    }

    public boolean undo() {
        if (history.acts == 0) {
            refuse(UNDO_REFUSED);
            return false;
        }
        history.restore(land);
        changes.known = false;
        figure();
        return true;
    }

    public boolean seed(int seed) {
        if (seed < 0) {
            refuse(SEED_REFUSED);
            return false;
        }
        chanceSeed = seed;
        return true;
    }

    public int image() {
        picture.write(land);
        return picture.size;
    }

    public int octet(int k) {
        return k >= 0 && k < picture.size ? picture.bytes[k] : NONE;
    }

    public boolean on() {
        boolean whole = Image.read(tape, trial, rivers);
        tape.size = 0;
        if (!whole) {
            refuse(SEED_REFUSED);
            return false;
        }
        land.copyFrom(trial);
        Arrays.fill(placeNames, 0);
        forgetActs();
        figure();
        return true;
    }

    public int status(int what) {
        return what >= 0 && what < REFUSALS ? refused[what] : NONE;
    }

    // ---- what the face rests on

    private int refuse(int kind) {
        refused[kind]++;
        return NONE;
    }

    private static boolean isWay(int way) {
        return way >= 0 && way < WAYS_OF_STEMS;
    }

    private static int letterOf(int name, int k) {
        return name >> 5 * k & 31;
    }

    private int rankOf(int reach, int kind, int way) {
        switch (kind) {
            case MET:
                return figures.met[reach];
            case FED:
                return Integer.bitCount(figures.springs[reach]);
            case BRANCH:
                return stemsBy[way].branch[reach];
            case CROWN:
                return stemsBy[way].crown[reach];
            default:
                return NONE;
        }
    }

    private static int unlike(int[] ones, int[] others, int many) {
        int count = 0;
        for (int i = 0; i < many; i++) {
            if (ones[i] != others[i]) {
                count++;
            }
        }
        return count;
    }

    private int lossOf(int reach) {
        // Without a reach the order of the others stays, so only the flow is told anew.
        trialFigures.flows.spread(land, figures.byHead, reach);
        return figures.flows.sumAt(figures.mouths) - trialFigures.flows.sumAt(figures.mouths);
    }

    private void figure() {
        figures.figure(land);
        for (int way = 0; way < WAYS_OF_STEMS; way++) {
            stemsBy[way].build(land, figures, way, stemsBy[BY_FLOW]);
        }
    }

    private void forgetActs() {
        history.acts = 0;
        changes.known = false;
    }

    private void beginAct() {
        history.keep(land);
        for (int kind = 0; kind < KINDS; kind++) {
            for (int r = 0; r < land.reaches; r++) {
                changes.note(kind, r, rankOf(r, kind, BY_FLOW));
            }
        }
        changes.reachesAhead = land.reaches;
    }

    private void endAct() {
        figure();
        changes.begin();
        int both = Math.min(changes.reachesAhead, land.reaches);
        for (int kind = 0; kind < KINDS; kind++) {
            for (int r = 0; r < both; r++) {
                changes.compare(kind, r, rankOf(r, kind, BY_FLOW));
            }
        }
    }

    private void splitReach(int reach, int n) {
        land.split(reach, n);
        placeNames[land.places - 1] = 0;
    }

    private int draw(int of) {
        chanceSeed = 1103515245 * chanceSeed + 12345 & SEED_BITS;
        return of > 0 ? chanceSeed / 64 % of : 0;
    }

    private void actByChance() {
        int what = draw(4);
        int reach = draw(land.reaches);
        switch (what) {
            case 0:
                if (land.mayReverse(reach)) {
                    land.reverse(reach);
                }
                break;
            case 1:
                land.gift[reach] = draw(MOST_GIFT + 1);
                break;
            case 2:
                if (land.maySplit(reach, land.length[reach] / 2)) {
                    splitReach(reach, land.length[reach] / 2);
                }
                break;
            default:
                int to = draw(land.places);
                if (land.mayLay(land.foot[reach], to, 10, 0)) {
                    land.lay(land.foot[reach], to, 10, 0, NONE);
                }
                break;
        }
    }

    /** The bytes that were fed and not yet used. */
    private static final class Tape {
        final byte[] bytes = new byte[MOST_BYTES];
        int size;

        boolean hasRoom() {
            return size + 20 <= MOST_BYTES;
        }

        void put(int number) {
            for (int shift = 24; shift >= 0 && size < MOST_BYTES; shift -= 8) {
                bytes[size] = (byte) (number >> shift);
                size++;
            }
        }

        /** Byte k, 0 to 255; NONE behind the last one. */
        int at(int k) {
            return k >= 0 && k < size ? bytes[k] & 255 : NONE;
        }
    }

    /** Places and the reaches between them; it never has a ring. */
    private static final class Net {
        int places;
        int reaches;
        final int[] head = new int[MOST_REACHES];
        final int[] foot = new int[MOST_REACHES];
        final int[] length = new int[MOST_REACHES];
        final int[] gift = new int[MOST_REACHES];
        final int[] river = new int[MOST_REACHES];

        boolean isPlace(int place) {
            return place >= 0 && place < places;
        }

        boolean isReach(int reach) {
            return reach >= 0 && reach < reaches;
        }

        void copyFrom(Net other) {
            places = other.places;
            reaches = other.reaches;
            System.arraycopy(other.head, 0, head, 0, reaches);
            System.arraycopy(other.foot, 0, foot, 0, reaches);
            System.arraycopy(other.length, 0, length, 0, reaches);
            System.arraycopy(other.gift, 0, gift, 0, reaches);
            System.arraycopy(other.river, 0, river, 0, reaches);
        }

        /** Whether one comes from a place to another, or it is that one, without one reach. */
        boolean leads(int from, int to, int without) {
            int come = 1 << from;
            for (int round = 0; round < places; round++) {
                int ahead = come;
                for (int r = 0; r < reaches; r++) {
                    if (r != without && (come >> head[r] & 1) == 1) {
                        come |= 1 << foot[r];
                    }
                }
                if (come == ahead) {
                    break;
                }
            }
            return (come >> to & 1) == 1;
        }

        boolean mayLay(int from, int to, int span, int yielded) {
            return isPlace(from) && isPlace(to) && reaches < MOST_REACHES
                && span >= 1 && span <= MOST_LENGTH && yielded >= 0 && yielded <= MOST_GIFT
                && !leads(to, from, NONE);
        }

        void lay(int from, int to, int span, int yielded, int name) {
            head[reaches] = from;
            foot[reaches] = to;
            length[reaches] = span;
            gift[reaches] = yielded;
            river[reaches] = name;
            reaches++;
        }

        void take(int reach) {
            int behind = reaches - reach - 1;
            System.arraycopy(head, reach + 1, head, reach, behind);
            System.arraycopy(foot, reach + 1, foot, reach, behind);
            System.arraycopy(length, reach + 1, length, reach, behind);
            System.arraycopy(gift, reach + 1, gift, reach, behind);
            System.arraycopy(river, reach + 1, river, reach, behind);
            reaches--;
        }

        boolean maySplit(int reach, int n) {
            return isReach(reach) && n >= 1 && n < length[reach]
                && places < MOST_PLACES && reaches < MOST_REACHES;
        }

        void split(int reach, int n) {
            int middle = places;
            places++;
            lay(middle, foot[reach], length[reach] - n, 0, river[reach]);
            foot[reach] = middle;
            length[reach] = n;
        }

        boolean mayReverse(int reach) {
            return !leads(head[reach], foot[reach], reach);
        }

        void reverse(int reach) {
            int top = head[reach];
            head[reach] = foot[reach];
            foot[reach] = top;
        }

        int howManyCalled(int name) {
            int many = 0;
            for (int r = 0; r < reaches; r++) {
                if (river[r] == name) {
                    many++;
                }
            }
            return many;
        }

        int lengthCalled(int name) {
            int sum = 0;
            for (int r = 0; r < reaches; r++) {
                if (river[r] == name) {
                    sum += length[r];
                }
            }
            return sum;
        }

        int firstCalled(int name) {
            for (int r = 0; r < reaches; r++) {
                if (river[r] == name) {
                    return r;
                }
            }
            return NONE;
        }

        /** In a row all heads are unlike, all feet are unlike, and one head alone is no foot. */
        boolean isTorn(int name) {
            int heads = 0;
            int feet = 0;
            int many = 0;
            for (int r = 0; r < reaches; r++) {
                if (river[r] == name) {
                    heads |= 1 << head[r];
                    feet |= 1 << foot[r];
                    many++;
                }
            }
            if (many == 0) {
                return false;
            }
            return Integer.bitCount(heads) < many || Integer.bitCount(feet) < many
                || Integer.bitCount(heads & ~feet) != 1;
        }

        /** A reach in one number, so that the acts to be undone take little room. */
        int packed(int reach) {
            return head[reach] | foot[reach] << 5 | length[reach] << 10 | gift[reach] << 17
                | river[reach] + 1 << 24;
        }

        void unpack(int reach, int packed) {
            head[reach] = packed & 31;
            foot[reach] = packed >> 5 & 31;
            length[reach] = packed >> 10 & 127;
            gift[reach] = packed >> 17 & 127;
            river[reach] = (packed >> 24 & 15) - 1;
        }
    }

    /** How much flows in each reach and comes to each place. */
    private static final class Flows {
        final int[] flow = new int[MOST_REACHES];
        final int[] comes = new int[MOST_PLACES];
        private final int[] outs = new int[MOST_PLACES];
        private final int[] served = new int[MOST_PLACES];

        /** Told reach by reach in the order of their heads; one reach may be left out. */
        void spread(Net net, int[] byHead, int without) {
            Arrays.fill(comes, 0);
            Arrays.fill(outs, 0);
            Arrays.fill(served, 0);
            for (int r = 0; r < net.reaches; r++) {
                if (r != without) {
                    outs[net.head[r]]++;
                }
            }
            for (int i = 0; i < net.reaches; i++) {
                int r = byHead[i];
                if (r != without) {
                    flow[r] = net.gift[r] + share(net.head[r]);
                    comes[net.foot[r]] += flow[r];
                }
            }
        }

        private int share(int place) {
            int among = outs[place];
            if (among == 0) {
                return 0;
            }
            int more = served[place] < comes[place] % among ? 1 : 0;
            served[place]++;
            return comes[place] / among + more;
        }

        int sumAt(int places) {
            int sum = 0;
            for (int p = 0; p < MOST_PLACES; p++) {
                if ((places >> p & 1) == 1) {
                    sum += comes[p];
                }
            }
            return sum;
        }
    }

    /** What follows from a net: its order, what lies up and down, flow, springs, ranks. */
    private static final class Figures {
        final int[] order = new int[MOST_PLACES];
        final int[] byHead = new int[MOST_REACHES];
        final int[] ins = new int[MOST_PLACES];
        final int[] outs = new int[MOST_PLACES];
        final int[] up = new int[MOST_PLACES];
        final int[] down = new int[MOST_PLACES];
        final int[] fromSource = new int[MOST_PLACES];
        final int[] toMouth = new int[MOST_PLACES];
        final int[] springs = new int[MOST_REACHES];
        final int[] met = new int[MOST_REACHES];
        final Flows flows = new Flows();
        int sources;
        int mouths;

        void figure(Net net) {
            countEnds(net);
            sortPlaces(net);
            sortReaches(net);
            lookUp(net);
            lookDown(net);
            flows.spread(net, byHead, NONE);
            findSprings(net);
            findMet(net);
        }

        private void countEnds(Net net) {
            Arrays.fill(ins, 0);
            Arrays.fill(outs, 0);
            for (int r = 0; r < net.reaches; r++) {
                outs[net.head[r]]++;
                ins[net.foot[r]]++;
            }
            sources = 0;
            mouths = 0;
            for (int p = 0; p < net.places; p++) {
                if (outs[p] > 0 && ins[p] == 0) {
                    sources |= 1 << p;
                }
                if (ins[p] > 0 && outs[p] == 0) {
                    mouths |= 1 << p;
                }
            }
        }

        /** Each place behind all that are up of it. */
        private void sortPlaces(Net net) {
            Arrays.fill(up, 0);
            for (int r = 0; r < net.reaches; r++) {
                up[net.foot[r]] |= 1 << net.head[r];
            }
            int sorted = 0;
            for (int i = 0; i < net.places; i++) {
                int next = 0;
                for (int p = 0; p < net.places; p++) {
                    if ((sorted >> p & 1) == 0 && (up[p] & ~sorted) == 0) {
                        next = p;
                        break;
                    }
                }
                order[i] = next;
                sorted |= 1 << next;
            }
        }

        private void sortReaches(Net net) {
            int many = 0;
            for (int i = 0; i < net.places; i++) {
                for (int r = 0; r < net.reaches; r++) {
                    if (net.head[r] == order[i] && many < MOST_REACHES) {
                        byHead[many] = r;
                        many++;
                    }
                }
            }
        }

        private void lookUp(Net net) {
            Arrays.fill(up, 0);
            Arrays.fill(fromSource, 0);
            for (int i = 0; i < net.reaches; i++) {
                int r = byHead[i];
                int head = net.head[r];
                int foot = net.foot[r];
                up[foot] |= up[head] | 1 << head;
                fromSource[foot] = Math.max(fromSource[foot], fromSource[head] + net.length[r]);
            }
        }

        private void lookDown(Net net) {
            Arrays.fill(down, 0);
            Arrays.fill(toMouth, 0);
            for (int i = net.reaches - 1; i >= 0; i--) {
                int r = byHead[i];
                int head = net.head[r];
                int foot = net.foot[r];
                down[head] |= down[foot] | 1 << foot;
                toMouth[head] = Math.max(toMouth[head], toMouth[foot] + net.length[r]);
            }
        }

        private void findSprings(Net net) {
            for (int r = 0; r < net.reaches; r++) {
                int head = net.head[r];
                springs[r] = (up[head] | 1 << head) & sources;
            }
        }

        private void findMet(Net net) {
            for (int i = 0; i < net.reaches; i++) {
                int r = byHead[i];
                int before = i == 0 ? NONE : byHead[i - 1];
                // All that run from one place have one rank, and they stand side by side.
                if (before != NONE && net.head[before] == net.head[r]) {
                    met[r] = met[before];
                } else {
                    met[r] = metFrom(net, net.head[r]);
                }
            }
        }

        private int metFrom(Net net, int place) {
            int greatest = 0;
            for (int r = 0; r < net.reaches; r++) {
                if (net.foot[r] == place) {
                    greatest = Math.max(greatest, met[r]);
                }
            }
            if (greatest == 0) {
                return 1;
            }
            return twoApart(net, place, greatest) ? greatest + 1 : greatest;
        }

        /** Whether two that run to a place, of a rank, have no spring in common. */
        private boolean twoApart(Net net, int place, int rank) {
            for (int r = 0; r < net.reaches; r++) {
                if (net.foot[r] != place || met[r] != rank) {
                    continue;
                }
                for (int s = r + 1; s < net.reaches; s++) {
                    if (net.foot[s] == place && met[s] == rank && (springs[r] & springs[s]) == 0) {
                        return true;
                    }
                }
            }
            return false;
        }

        int howManyPart(Net net) {
            int many = 0;
            for (int p = 0; p < net.places; p++) {
                if (outs[p] >= 2) {
                    many++;
                }
            }
            return many;
        }

        int greatestMet(Net net) {
            int greatest = 0;
            for (int r = 0; r < net.reaches; r++) {
                greatest = Math.max(greatest, met[r]);
            }
            return greatest;
        }

        int howManyMet(Net net, int rank) {
            int many = 0;
            for (int r = 0; r < net.reaches; r++) {
                if (met[r] == rank) {
                    many++;
                }
            }
            return many;
        }

        int lengthOfMet(Net net, int rank) {
            int sum = 0;
            for (int r = 0; r < net.reaches; r++) {
                if (met[r] == rank) {
                    sum += net.length[r];
                }
            }
            return sum;
        }

        /** The first place where the waters of two meet. */
        int meeting(Net net, int one, int other) {
            int common = (down[one] | 1 << one) & (down[other] | 1 << other);
            for (int p = 0; p < net.places; p++) {
                if ((common >> p & 1) == 1 && (up[p] & common) == 0) {
                    return p;
                }
            }
            return NONE;
        }

        /** The nearest place that all ways from one to mouths come through. */
        int joining(Net net, int place) {
            for (int i = 0; i < net.places; i++) {
                int p = order[i];
                if ((down[place] >> p & 1) == 1 && (comeBeside(net, place, p) & mouths) == 0) {
                    return p;
                }
            }
            return NONE;
        }

        private int comeBeside(Net net, int from, int avoided) {
            int come = 1 << from;
            for (int i = 0; i < net.reaches; i++) {
                int r = byHead[i];
                if (net.foot[r] != avoided && (come >> net.head[r] & 1) == 1) {
                    come |= 1 << net.foot[r];
                }
            }
            return come;
        }

        int telling(Net net, int fitting) {
            int best = NONE;
            int fewest = 0;
            for (int r = 0; r < net.reaches; r++) {
                int left = leftAtMost(net, fitting, r);
                if (best == NONE || left < fewest) {
                    best = r;
                    fewest = left;
                }
            }
            return best;
        }

        int leftAtMost(Net net, int fitting, int reach) {
            int head = net.head[reach];
            int dyed = Integer.bitCount(fitting & (up[head] | 1 << head));
            return Math.max(dyed, Integer.bitCount(fitting) - dyed);
        }
    }

    /** Which reach goes on in which by one way, and the ranks that follow from it. */
    private static final class Stems {
        final int[] mainIn = new int[MOST_PLACES];
        final int[] mainOut = new int[MOST_PLACES];
        final int[] next = new int[MOST_REACHES];
        final int[] before = new int[MOST_REACHES];
        final int[] branch = new int[MOST_REACHES];
        final int[] crown = new int[MOST_REACHES];

        /** The stems by flow must have been built ahead of those by names. */
        void build(Net net, Figures figures, int way, Stems byFlow) {
            findMains(net, figures, way == BY_LENGTH);
            if (way == BY_NAMES) {
                preferNames(net, byFlow);
            }
            join(net);
            findBranches(net, figures);
            findCrowns(net, figures);
        }

        private void findMains(Net net, Figures figures, boolean byLength) {
            Arrays.fill(mainIn, NONE);
            Arrays.fill(mainOut, NONE);
            int[] flow = figures.flows.flow;
            for (int r = 0; r < net.reaches; r++) {
                int in = mainIn[net.foot[r]];
                if (in == NONE || weight(net, figures, r, byLength) > weight(net, figures, in, byLength)) {
                    mainIn[net.foot[r]] = r;
                }
                int out = mainOut[net.head[r]];
                if (out == NONE || flow[r] > flow[out]) {
                    mainOut[net.head[r]] = r;
                }
            }
        }

        private static int weight(Net net, Figures figures, int reach, boolean byLength) {
            if (byLength) {
                return net.length[reach] + figures.fromSource[net.head[reach]];
            }
            return figures.flows.flow[reach];
        }

        private void preferNames(Net net, Stems byFlow) {
            // From the last on, so that the first one called alike stays.
            for (int r = net.reaches - 1; r >= 0; r--) {
                if (net.river[r] == NONE) {
                    continue;
                }
                int out = byFlow.mainOut[net.foot[r]];
                if (out != NONE && net.river[out] == net.river[r]) {
                    mainIn[net.foot[r]] = r;
                }
                int in = byFlow.mainIn[net.head[r]];
                if (in != NONE && net.river[in] == net.river[r]) {
                    mainOut[net.head[r]] = r;
                }
            }
        }

        private void join(Net net) {
            Arrays.fill(next, NONE);
            Arrays.fill(before, NONE);
            for (int p = 0; p < net.places; p++) {
                int in = mainIn[p];
                int out = mainOut[p];
                if (in != NONE && out != NONE) {
                    next[in] = out;
                    before[out] = in;
                }
            }
        }

        private void findBranches(Net net, Figures figures) {
            for (int i = net.reaches - 1; i >= 0; i--) {
                int r = figures.byHead[i];
                branch[r] = next[r] != NONE ? branch[next[r]] : 1 + leastBranchFrom(net, net.foot[r]);
            }
        }

        /** 0 at a mouth. */
        private int leastBranchFrom(Net net, int place) {
            int least = 0;
            for (int r = 0; r < net.reaches; r++) {
                if (net.head[r] == place && (least == 0 || branch[r] < least)) {
                    least = branch[r];
                }
            }
            return least;
        }

        private void findCrowns(Net net, Figures figures) {
            for (int i = 0; i < net.reaches; i++) {
                int r = figures.byHead[i];
                int above = before[r] == NONE ? 0 : crown[before[r]];
                crown[r] = Math.max(figures.met[r], above);
            }
            for (int i = net.reaches - 1; i >= 0; i--) {
                int r = figures.byHead[i];
                if (next[r] != NONE) {
                    crown[r] = crown[next[r]];
                }
            }
        }

        int topOf(int reach) {
            int top = reach;
            for (int i = 0; i < MOST_REACHES && before[top] != NONE; i++) {
                top = before[top];
            }
            return top;
        }

        int howMany(int top) {
            int many = 1;
            int at = top;
            for (int i = 0; i < MOST_REACHES && next[at] != NONE; i++) {
                at = next[at];
                many++;
            }
            return many;
        }

        int nth(int top, int k) {
            if (k < 0) {
                return NONE;
            }
            int at = top;
            for (int i = 0; i < k && at != NONE; i++) {
                at = next[at];
            }
            return at;
        }

        int lengthOf(Net net, int top) {
            int sum = 0;
            int at = top;
            for (int i = 0; i < MOST_REACHES && at != NONE; i++) {
                sum += net.length[at];
                at = next[at];
            }
            return sum;
        }

        int howManyStems(Net net) {
            int many = 0;
            for (int r = 0; r < net.reaches; r++) {
                if (before[r] == NONE) {
                    many++;
                }
            }
            return many;
        }

        /** The top of the longest stem. */
        int longest(Net net) {
            int top = NONE;
            int most = 0;
            for (int r = 0; r < net.reaches; r++) {
                int sum = before[r] == NONE ? lengthOf(net, r) : 0;
                if (sum > most) {
                    most = sum;
                    top = r;
                }
            }
            return top;
        }
    }

    /** Looks through a net with rows of its own that each call uses again. */
    private static final class Search {
        private final int[] atPlace = new int[MOST_PLACES];
        private final int[] ofReach = new int[MOST_REACHES];
        private final int[] hours = new int[MOST_PLACES];
        int arrivals;

        int howManyWays(Net net, Figures figures, int from, int to) {
            Arrays.fill(atPlace, 0);
            atPlace[from] = 1;
            for (int i = 0; i < net.reaches; i++) {
                int r = figures.byHead[i];
                int sum = atPlace[net.foot[r]] + atPlace[net.head[r]];
                atPlace[net.foot[r]] = Math.min(sum, MOST_WAYS);
            }
            return atPlace[to];
        }

        int lengthOfWay(Net net, Figures figures, int from, int to, boolean greatest) {
            Arrays.fill(atPlace, NONE);
            atPlace[from] = 0;
            for (int i = 0; i < net.reaches; i++) {
                int r = figures.byHead[i];
                if (atPlace[net.head[r]] == NONE) {
                    continue;
                }
                int sum = atPlace[net.head[r]] + net.length[r];
                int held = atPlace[net.foot[r]];
                if (held == NONE || (greatest ? sum > held : sum < held)) {
                    atPlace[net.foot[r]] = sum;
                }
            }
            return atPlace[to];
        }

        /** Each reach of the rank is a stream of its own at first; each joining takes one away. */
        int howManyStreams(Net net, int[] met, int rank) {
            int many = 0;
            for (int r = 0; r < net.reaches; r++) {
                ofReach[r] = r;
                if (met[r] == rank) {
                    many++;
                }
            }
            for (int r = 0; r < net.reaches; r++) {
                for (int s = 0; s < net.reaches; s++) {
                    if (met[r] == rank && met[s] == rank && net.foot[r] == net.head[s]) {
                        int one = leader(r);
                        int other = leader(s);
                        if (one != other) {
                            ofReach[other] = one;
                            many--;
                        }
                    }
                }
            }
            return many;
        }

        private int leader(int reach) {
            int at = reach;
            for (int i = 0; i < MOST_REACHES && ofReach[at] != at; i++) {
                at = ofReach[at];
            }
            return at;
        }

        /** As many ways without a reach in common lead to a place as reaches cut it off. */
        int howManyApart(Net net, int sources, int place) {
            Arrays.fill(ofReach, 0);
            int apart = 0;
            for (int i = 0; i < net.reaches; i++) {
                if (!findWay(net, sources, place)) {
                    break;
                }
                useWay(net, sources, place);
                apart++;
            }
            return apart;
        }

        /** Goes down reaches that are free and back up those in use; keeps how it came. */
        private boolean findWay(Net net, int sources, int place) {
            int come = sources;
            for (int round = 0; round < net.places; round++) {
                int ahead = come;
                for (int r = 0; r < net.reaches; r++) {
                    int from = ofReach[r] == 0 ? net.head[r] : net.foot[r];
                    int to = ofReach[r] == 0 ? net.foot[r] : net.head[r];
                    if ((come >> from & 1) == 1 && (come >> to & 1) == 0) {
                        come |= 1 << to;
                        atPlace[to] = r;
                    }
                }
                if (come == ahead || (come >> place & 1) == 1) {
                    break;
                }
            }
            return (come >> place & 1) == 1;
        }

        private void useWay(Net net, int sources, int place) {
            int at = place;
            for (int i = 0; i < net.places && (sources >> at & 1) == 0; i++) {
                int r = atPlace[at];
                at = ofReach[r] == 0 ? net.head[r] : net.foot[r];
                ofReach[r] = 1 - ofReach[r];
            }
        }

        /** Keeps the hours at which waves come to a place. */
        void sendWaves(Net net, int sources, int[] mainOut, int place) {
            arrivals = 0;
            for (int p = 0; p < net.places; p++) {
                int hour = (sources >> p & 1) == 1 ? hourAt(net, mainOut, p, place) : NONE;
                if (hour != NONE) {
                    hours[arrivals] = hour;
                    arrivals++;
                }
            }
        }

        private static int hourAt(Net net, int[] mainOut, int source, int place) {
            int at = source;
            int hour = 0;
            for (int i = 0; i < net.places && at != place; i++) {
                int r = mainOut[at];
                if (r == NONE) {
                    return NONE;
                }
                hour += net.length[r];
                at = net.foot[r];
            }
            return at == place ? hour : NONE;
        }

        private int comingAt(int hour) {
            int many = 0;
            for (int i = 0; i < arrivals; i++) {
                if (hours[i] == hour) {
                    many++;
                }
            }
            return many;
        }

        int mostAtOnce() {
            return arrivals == 0 ? NONE : comingAt(hourOfMost());
        }

        int hourOfMost() {
            int hour = NONE;
            int most = 0;
            for (int i = 0; i < arrivals; i++) {
                int many = comingAt(hours[i]);
                if (many > most || many == most && hours[i] < hour) {
                    most = many;
                    hour = hours[i];
                }
            }
            return hour;
        }

        int lastHour() {
            int last = NONE;
            for (int i = 0; i < arrivals; i++) {
                last = Math.max(last, hours[i]);
            }
            return last;
        }
    }

    /** The rows of a reach and whether dye was in it. */
    private static final class Seen {
        int rows;
        private final int[] reaches = new int[MOST_ROWS];
        private final int[] dyed = new int[MOST_ROWS];

        boolean take(Tape tape, int many) {
            if (tape.size == 0 || tape.size > 2 * MOST_ROWS || tape.size % 2 != 0) {
                return false;
            }
            for (int k = 0; k < tape.size; k += 2) {
                if (tape.at(k) >= many || tape.at(k + 1) > 1) {
                    return false;
                }
            }
            rows = tape.size / 2;
            for (int i = 0; i < rows; i++) {
                reaches[i] = tape.at(2 * i);
                dyed[i] = tape.at(2 * i + 1);
            }
            return true;
        }

        int fitting(Net net, int[] down) {
            if (rows == 0) {
                return NONE;
            }
            for (int i = 0; i < rows; i++) {
                if (!net.isReach(reaches[i])) {
                    return NONE;
                }
            }
            int fitting = 0;
            for (int p = 0; p < net.places; p++) {
                if (fitsAt(net, down[p] | 1 << p)) {
                    fitting |= 1 << p;
                }
            }
            return fitting;
        }

        private boolean fitsAt(Net net, int wet) {
            for (int i = 0; i < rows; i++) {
                if ((wet >> net.head[reaches[i]] & 1) != dyed[i]) {
                    return false;
                }
            }
            return true;
        }
    }

    /** The nets ahead of the latest acts, each in a row of numbers. */
    private static final class History {
        private static final int ROW = 2 + MOST_REACHES;

        int acts;
        private int first;
        private final int[] kept = new int[MOST_UNDONE * ROW];

        void keep(Net net) {
            if (acts == MOST_UNDONE) {
                first = (first + 1) % MOST_UNDONE;
                acts--;
            }
            int row = (first + acts) % MOST_UNDONE * ROW;
            kept[row] = net.places;
            kept[row + 1] = net.reaches;
            for (int r = 0; r < net.reaches; r++) {
                kept[row + 2 + r] = net.packed(r);
            }
            acts++;
        }

        void restore(Net net) {
            acts--;
            int row = (first + acts) % MOST_UNDONE * ROW;
            net.places = kept[row];
            net.reaches = kept[row + 1];
            for (int r = 0; r < net.reaches; r++) {
                net.unpack(r, kept[row + 2 + r]);
            }
        }
    }

    /** How many reaches came to another rank by the latest act. */
    private static final class Changes {
        boolean known;
        int reachesAhead;
        final int[] howMany = new int[KINDS];
        private final int[] ahead = new int[KINDS * MOST_REACHES];

        void note(int kind, int reach, int rank) {
            ahead[kind * MOST_REACHES + reach] = rank;
        }

        void begin() {
            known = true;
            Arrays.fill(howMany, 0);
        }

        void compare(int kind, int reach, int rank) {
            if (ahead[kind * MOST_REACHES + reach] != rank) {
                howMany[kind]++;
            }
        }
    }

    /** A net as bytes. */
    private static final class Image {
        int size;
        final int[] bytes = new int[IMAGE_AHEAD + IMAGE_REACH * MOST_REACHES + 1];

        void write(Net net) {
            bytes[0] = net.places;
            bytes[1] = net.reaches;
            int at = IMAGE_AHEAD;
            for (int r = 0; r < net.reaches; r++) {
                bytes[at] = net.head[r];
                bytes[at + 1] = net.foot[r];
                bytes[at + 2] = net.length[r];
                bytes[at + 3] = net.gift[r];
                bytes[at + 4] = net.river[r] == NONE ? NOT_CALLED : net.river[r];
                at += IMAGE_REACH;
            }
            int check = CHECK_FIRST;
            for (int k = 0; k < at; k++) {
                check = (3 * check + bytes[k]) % CHECK_OF;
            }
            bytes[at] = check;
            size = at + 1;
        }

        static boolean read(Tape tape, Net net, int rivers) {
            int places = tape.at(0);
            int reaches = tape.at(1);
            if (places < 1 || places > MOST_PLACES || reaches < 0 || reaches > MOST_REACHES
                || tape.size != IMAGE_AHEAD + IMAGE_REACH * reaches + 1 || !isChecked(tape)) {
                return false;
            }
            net.places = places;
            net.reaches = 0;
            for (int r = 0; r < reaches; r++) {
                if (!readReach(tape, IMAGE_AHEAD + IMAGE_REACH * r, net, rivers)) {
                    return false;
                }
            }
            return true;
        }

        private static boolean isChecked(Tape tape) {
            int check = CHECK_FIRST;
            for (int k = 0; k < tape.size - 1; k++) {
                check = (3 * check + tape.at(k)) % CHECK_OF;
            }
            return tape.at(tape.size - 1) == check;
        }

        private static boolean readReach(Tape tape, int at, Net net, int rivers) {
            int river = tape.at(at + 4);
            if (river != NOT_CALLED && river >= rivers
                || !net.mayLay(tape.at(at), tape.at(at + 1), tape.at(at + 2), tape.at(at + 3))) {
                return false;
            }
            net.lay(tape.at(at), tape.at(at + 1), tape.at(at + 2), tape.at(at + 3),
                river == NOT_CALLED ? NONE : river);
            return true;
        }
    }

    /** Reads a net's text; keeps the first fault. */
    private static final class Reader {
        // Words are held as numbers, five bits a letter, the first one lowest.
        private static final int PLACES = 'p' & 31 | ('l' & 31) << 5 | ('a' & 31) << 10
            | ('c' & 31) << 15 | ('e' & 31) << 20 | ('s' & 31) << 25;
        private static final int REACH = 'r' & 31 | ('e' & 31) << 5 | ('a' & 31) << 10
            | ('c' & 31) << 15 | ('h' & 31) << 20;
        private static final int TO = 't' & 31 | ('o' & 31) << 5;
        private static final int LONG = 'l' & 31 | ('o' & 31) << 5 | ('n' & 31) << 10
            | ('g' & 31) << 15;
        private static final int YIELDS = 'y' & 31 | ('i' & 31) << 5 | ('e' & 31) << 10
            | ('l' & 31) << 15 | ('d' & 31) << 20 | ('s' & 31) << 25;
        private static final int CALLED = 'c' & 31 | ('a' & 31) << 5 | ('l' & 31) << 10
            | ('l' & 31) << 15 | ('e' & 31) << 20 | ('d' & 31) << 25;

        final Net draft = new Net();
        final int[] placeNames = new int[MOST_PLACES];
        final int[] riverNames = new int[MOST_RIVERS];
        int rivers;
        int fault;
        int faultAt = NONE;
        private final Tape text;
        private int at;

        Reader(Tape text) {
            this.text = text;
        }

        boolean read() {
            at = 0;
            draft.places = 0;
            draft.reaches = 0;
            rivers = 0;
            fault = 0;
            faultAt = NONE;
            if (!readPlaces()) {
                return false;
            }
            // One more than may be, so that the one too many is told.
            for (int i = 0; i <= MOST_REACHES; i++) {
                skipBlanks();
                if (at >= text.size) {
                    return true;
                }
                if (!readReach()) {
                    return false;
                }
            }
            return false;
        }

        private boolean readPlaces() {
            if (!wantWord(PLACES)) {
                return false;
            }
            for (int i = 0; i <= MOST_PLACES; i++) {
                if (!readNewPlace()) {
                    return false;
                }
                if (!takeSign(',')) {
                    return wantEnd();
                }
            }
            return false;
        }

        private boolean readNewPlace() {
            skipBlanks();
            if (draft.places == MOST_PLACES && at < text.size) {
                return fail(FAULT_MANY, at);
            }
            int from = at;
            int name = readName();
            if (name == NONE) {
                return false;
            }
            if (find(placeNames, draft.places, name) != NONE) {
                return fail(FAULT_NAME, from);
            }
            if (draft.places < MOST_PLACES) {
                placeNames[draft.places] = name;
                draft.places++;
            }
            return true;
        }

        private boolean readReach() {
            int start = at;
            if (!wantWord(REACH)) {
                return false;
            }
            if (draft.reaches >= MOST_REACHES) {
                return fail(FAULT_MANY, start);
            }
            int head = readOldPlace(NONE);
            if (head == NONE || !wantWord(TO)) {
                return false;
            }
            int foot = readOldPlace(head);
            if (foot == NONE || !wantWord(LONG)) {
                return false;
            }
            int length = readNumber(1);
            if (length == NONE) {
                return false;
            }
            int gift = takeWord(YIELDS) ? readNumber(0) : 0;
            if (gift == NONE) {
                return false;
            }
            int river = takeWord(CALLED) ? readRiver() : NONE;
            if (fault != 0 || !wantEnd()) {
                return false;
            }
            draft.lay(head, foot, length, gift, river);
            return true;
        }

        /** A place that there is; behind a head, one from which none comes down to it. */
        private int readOldPlace(int head) {
            skipBlanks();
            int from = at;
            int name = readName();
            if (name == NONE) {
                return NONE;
            }
            int place = find(placeNames, draft.places, name);
            if (place == NONE) {
                fail(FAULT_NAME, from);
                return NONE;
            }
            if (head != NONE && draft.leads(place, head, NONE)) {
                fail(FAULT_RING, from);
                return NONE;
            }
            return place;
        }

        private int readRiver() {
            skipBlanks();
            int from = at;
            int name = readName();
            if (name == NONE) {
                return NONE;
            }
            int river = find(riverNames, rivers, name);
            if (river != NONE) {
                return river;
            }
            if (rivers >= MOST_RIVERS) {
                fail(FAULT_MANY, from);
                return NONE;
            }
            riverNames[rivers] = name;
            rivers++;
            return rivers - 1;
        }

        /** Begins where blanks are skipped already. */
        private int readName() {
            int stop = wordEnd();
            if (stop - at > MOST_LETTERS) {
                fail(FAULT_TEXT, at + MOST_LETTERS);
                return NONE;
            }
            int name = wordTo(stop);
            if (name == 0 || isOwnWord(name)) {
                fail(FAULT_TEXT, at);
                return NONE;
            }
            at = stop;
            return name;
        }

        private int readNumber(int least) {
            // A digit right behind a word: a blank is missing.
            if (isDigit(text.at(at))) {
                fail(FAULT_TEXT, at);
                return NONE;
            }
            skipBlanks();
            int from = at;
            int number = 0;
            for (int k = 0; k < MOST_DIGITS && isDigit(text.at(at)); k++) {
                number = 10 * number + text.at(at) - '0';
                at++;
            }
            if (at == from || isDigit(text.at(at))) {
                fail(FAULT_TEXT, at);
                return NONE;
            }
            if (number < least) {
                fail(FAULT_NUMBER, from);
                return NONE;
            }
            if (isLetter(text.at(at))) {
                fail(FAULT_TEXT, at);
                return NONE;
            }
            return number;
        }

        private boolean takeWord(int word) {
            skipBlanks();
            int stop = wordEnd();
            if (wordTo(stop) != word) {
                return false;
            }
            at = stop;
            return true;
        }

        private boolean wantWord(int word) {
            return takeWord(word) || fail(FAULT_TEXT, at);
        }

        private boolean takeSign(char sign) {
            skipBlanks();
            if (text.at(at) != sign) {
                return false;
            }
            at++;
            return true;
        }

        private boolean wantEnd() {
            return takeSign(';') || fail(FAULT_TEXT, at);
        }

        private static boolean isOwnWord(int word) {
            return word == PLACES || word == REACH || word == TO || word == LONG || word == YIELDS
                || word == CALLED;
        }

        private int wordEnd() {
            int stop = at;
            while (stop < text.size && isLetter(text.at(stop))) {
                stop++;
            }
            return stop;
        }

        /** The letters from here on as a number; NONE when they are more than a word has. */
        private int wordTo(int stop) {
            if (stop - at > MOST_LETTERS) {
                return NONE;
            }
            int word = 0;
            for (int k = 0; k < stop - at; k++) {
                word |= (text.at(at + k) & 31) << 5 * k;
            }
            return word;
        }

        private void skipBlanks() {
            while (at < text.size && (text.at(at) == 10 || text.at(at) == 32)) {
                at++;
            }
        }

        private boolean fail(int which, int where) {
            fault = which;
            faultAt = where;
            return false;
        }

        private static int find(int[] names, int many, int name) {
            for (int i = 0; i < many; i++) {
                if (names[i] == name) {
                    return i;
                }
            }
            return NONE;
        }

        private static boolean isLetter(int sign) {
            return sign >= 'a' && sign <= 'z';
        }

        private static boolean isDigit(int sign) {
            return sign >= '0' && sign <= '9';
        }
    }
}
