/**
 * A tree of at most 64 nodes kept as a row of at most 128 parentheses, two bits of a node,
 * with summaries of blocks of 16 bits over which the row is searched on and back.
 */
public final class ExcessTree {
    public static final int BAD = -1, STATE = -2, FULL = -3, NONE = -4, OVER = -5;

    private static final int MOST_NODES = 64;
    private static final int MOST_PLACES = 2 * MOST_NODES;
    private static final int MOST_WEIGHT = 2147483647;
    private static final int BLOCK = 16;
    private static final int MOST_BLOCKS = MOST_PLACES / BLOCK;
    private static final int MOST_BYTES = 160;
    private static final int MOST_FIGURES = 4;
    private static final int MOST_CELLS = 40;
    private static final int SHEETS = 4;
    private static final int IMAGES = 2;

    /** Kinds of signs that are counted and found in a row. */
    private static final int OPENS = 0, CLOSES = 1, PAIRS = 2;

    /** Faults of a text. */
    private static final int NO_TOKEN = 1, MISPLACED = 2, TOO_MANY = 5;

    /** Faults of a sheet; an answer that tells a fault is FAULTY less the fault (or its place). */
    private static final int NULL = 1, INDEX = 2, CAST = 3, SIZE = 4;
    private static final int FAULTY = -10;

    private final Tree tree = new Tree();
    /** What is read before it is known to be a tree, so that a refused one changes nothing. */
    private final Tree draft = new Tree();
    private final Tree[] images = new Tree[IMAGES];
    private final boolean[] kept = new boolean[IMAGES];
    private final Tape tape = new Tape();
    private final Sheet[] sheets = new Sheet[SHEETS];
    private int latestTorn;

    public ExcessTree() {
        for (int k = 0; k < IMAGES; k++) {
            images[k] = new Tree();
        }
        for (int k = 0; k < SHEETS; k++) {
            sheets[k] = new Sheet();
        }
    }

    // ---- the text

    public int feed(int c) {
        if (!within(c, 0, 127)) {
            return BAD;
        }
        return tape.put(c) ? tape.length : FULL;
    }

    public int end(int n) {
        if (!within(n, 0, tape.length)) {
            return BAD;
        }
        int had = tape.length;
        tape.length = n;
        return had;
    }

    public int text() {
        tape.tell(draft);
        tape.length = 0;
        if (tape.latestFault != 0) {
            return FAULTY - tape.start;
        }
        tree.become(draft);
        for (int k = 0; k < IMAGES; k++) {
            kept[k] = false;
        }
        return tree.nodes();
    }

    public int fault() {
        return tape.latestFault;
    }

    // ---- the row

    public int size(int what) {
        switch (what) {
            case 0:
                return tree.nodes();
            case 1:
                return tree.row.signsAhead(tree.row.places, PAIRS);
            case 2:
                return tree.nodes() == 0 ? NONE : tree.heightOf(0);
            case 3:
                return tree.row.places;
            case 4:
                return tree.row.blocks();
            default:
                return BAD;
        }
    }

    public int bit(int p) {
        return isPlace(p) ? tree.row.bitAt(p) : BAD;
    }

    public int excess(int p) {
        return isPoint(p) ? tree.row.excessAt(p) : BAD;
    }

    public int rank(int p, int what) {
        if (!isPoint(p) || !within(what, OPENS, PAIRS)) {
            return BAD;
        }
        // A pair counts once its ) is among the first p too.
        return tree.row.signsAhead(what == PAIRS ? p - 1 : p, what);
    }

    public int select(int k, int what) {
        if (k < 0 || !within(what, OPENS, PAIRS)) {
            return BAD;
        }
        return tree.row.placeOfSign(k, what);
    }

    public int forward(int p, int d) {
        return isPoint(p) ? tree.row.searchOn(p, d) : BAD;
    }

    public int backward(int p, int d) {
        return isPoint(p) ? tree.row.searchBack(p, d) : BAD;
    }

    public int match(int p) {
        return isPlace(p) ? tree.row.partnerOf(p) : BAD;
    }

    public int least(int i, int j, int what) {
        if (!isPoint(i) || !isPoint(j) || i > j) {
            return BAD;
        }
        switch (what) {
            case 0:
                return tree.row.extremeIn(i, j, false);
            case 1:
                return tree.row.firstWith(i, tree.row.extremeIn(i, j, false));
            case 2:
                return tree.row.pointsWith(i, j, tree.row.extremeIn(i, j, false));
            case 3:
                return tree.row.extremeIn(i, j, true);
            default:
                return BAD;
        }
    }

    public int block(int b, int what) {
        if (!within(b, 0, tree.row.blocks() - 1)) {
            return BAD;
        }
        switch (what) {
            case 0:
                return 100 + tree.row.gains[b];
            case 1:
                return 100 + tree.row.lows[b];
            case 2:
                return 100 + tree.row.highs[b];
            default:
                return BAD;
        }
    }

    // ---- nodes

    public int node(int v, int what) {
        if (!tree.has(v)) {
            return BAD;
        }
        switch (what) {
            case 0:
                return tree.openOf(v);
            case 1:
                return tree.closeOf(v);
            case 2:
                return tree.depthOf(v);
            case 3:
                return tree.aboveBy(v, 1);
            case 4:
                return tree.firstChildOf(v);
            case 5:
                return tree.lastChildOf(v);
            case 6:
                return tree.nextChildAfter(v);
            case 7:
                return tree.childBefore(v);
            case 8:
                return tree.childrenOf(v);
            case 9:
                return tree.nodesOf(v);
            case 10:
                return tree.leavesOf(v);
            case 11:
                return tree.heightOf(v);
            case 12:
                return tree.row.signsAhead(tree.closeOf(v), CLOSES);
            case 13:
                return tree.orderOf(v);
            default:
                return BAD;
        }
    }

    public int child(int v, int i) {
        if (!tree.has(v) || i < 0) {
            return BAD;
        }
        return tree.childAt(v, i);
    }

    public int below(int i) {
        if (!tree.has(i)) {
            return BAD;
        }
        return tree.nodeWithPlace(tree.row.placeOfSign(i, CLOSES));
    }

    public int up(int v, int k) {
        if (!tree.has(v) || k < 0) {
            return BAD;
        }
        return tree.aboveBy(v, k);
    }

    public int meet(int u, int v) {
        if (!tree.has(u) || !tree.has(v)) {
            return BAD;
        }
        return tree.meetingOf(u, v);
    }

    public int way(int u, int v) {
        if (!tree.has(u) || !tree.has(v)) {
            return BAD;
        }
        return tree.depthOf(u) + tree.depthOf(v) - 2 * tree.depthOf(tree.meetingOf(u, v));
    }

    public int level(int d, int what) {
        if (d < 0) {
            return BAD;
        }
        switch (what) {
            case 0:
                return tree.firstOfDepth(d, 0);
            case 1:
                return tree.lastOfDepth(d, tree.row.places);
            case 2:
                return tree.howManyOfDepth(d);
            default:
                return BAD;
        }
    }

    public int beside(int v, int what) {
        if (!tree.has(v)) {
            return BAD;
        }
        switch (what) {
            case 0:
                return tree.firstOfDepth(tree.depthOf(v), tree.closeOf(v) + 1);
            case 1:
                return tree.lastOfDepth(tree.depthOf(v), tree.openOf(v));
            default:
                return BAD;
        }
    }

    public int deepest(int v) {
        return tree.has(v) ? tree.deepestOf(v) : BAD;
    }

    public int alike(int u, int v) {
        if (!tree.has(u) || !tree.has(v)) {
            return BAD;
        }
        return tree.haveLikeRows(u, v) ? 1 : 0;
    }

    // ---- weights

    public int weight(int v) {
        return tree.has(v) ? tree.weights[v] : BAD;
    }

    public int set(int v, int w) {
        if (!tree.has(v) || w < 0) {
            return BAD;
        }
        int was = tree.weights[v];
        tree.weights[v] = w;
        return was;
    }

    public int sum(int v, int what) {
        if (!tree.has(v) || !within(what, 0, 1)) {
            return BAD;
        }
        long all = what == 0 ? tree.weightBelow(v) : tree.weightAbove(v);
        return all > MOST_WEIGHT ? OVER : (int) all;
    }

    public int heaviest(int v) {
        return tree.has(v) ? tree.heaviestOf(v) : BAD;
    }

    // ---- edits

    public int plant(int w) {
        if (w < 0) {
            return BAD;
        }
        if (tree.nodes() > 0) {
            return STATE;
        }
        return tree.addLeafAt(0, w);
    }

    public int leaf(int v, int i, int w) {
        if (!tree.has(v) || w < 0 || !within(i, 0, tree.childrenOf(v))) {
            return BAD;
        }
        if (tree.nodes() >= MOST_NODES) {
            return FULL;
        }
        return tree.addLeafAt(tree.placeForChild(v, i), w);
    }

    public int prune(int v) {
        if (!tree.has(v)) {
            return BAD;
        }
        if (tree.firstChildOf(v) != NONE) {
            return STATE;
        }
        tree.removeSubtree(v);
        return tree.nodes();
    }

    public int fell(int v) {
        if (!tree.has(v)) {
            return BAD;
        }
        int went = tree.nodesOf(v);
        tree.removeSubtree(v);
        return went;
    }

    public int wrap(int v, int i, int k, int w) {
        if (!tree.has(v) || w < 0) {
            return BAD;
        }
        int children = tree.childrenOf(v);
        // k is compared with what i leaves: their sum could wrap around.
        if (!within(i, 0, children) || !within(k, 0, children - i)) {
            return BAD;
        }
        if (tree.nodes() >= MOST_NODES) {
            return FULL;
        }
        return tree.addAbout(tree.placeForChild(v, i), tree.placeForChild(v, i + k), w);
    }

    public int melt(int v) {
        if (!tree.has(v)) {
            return BAD;
        }
        if (v == 0 && tree.childrenOf(0) != 1) {
            return STATE;
        }
        tree.removeAlone(v);
        return tree.nodes();
    }

    public int graft(int v, int u, int i) {
        if (!tree.has(v) || !tree.has(u)) {
            return BAD;
        }
        if (v == 0 || tree.isAbove(v, u)) {
            return STATE;
        }
        int others = tree.childrenOf(u) - (tree.aboveBy(v, 1) == u ? 1 : 0);
        if (!within(i, 0, others)) {
            return BAD;
        }
        return tree.moveSubtree(v, u, i);
    }

    // ---- by a seed

    public int grow(int seed, int n) {
        if (!within(n, 1, MOST_NODES)) {
            return BAD;
        }
        tree.row.clear();
        tree.addLeafAt(0, 0);
        int s = seed;
        for (int nodes = 1; nodes < n; nodes++) {
            s = s * 1103515245 + 12345;
            int got = (s >>> 16) & 32767;
            tree.addLeafAt(tree.closeOf(got % nodes), 0);
        }
        return tree.heightOf(0);
    }

    // ---- images, sheets

    public int keep(int k) {
        if (!within(k, 0, IMAGES - 1)) {
            return BAD;
        }
        int was = kept[k] ? 1 : 0;
        images[k].become(tree);
        kept[k] = true;
        return was;
    }

    public int back(int k) {
        if (!within(k, 0, IMAGES - 1)) {
            return BAD;
        }
        if (!kept[k]) {
            return STATE;
        }
        tree.become(images[k]);
        return tree.nodes();
    }

    public int sheet(int k, int lane, int n) {
        if (!isSheet(k) || !isLane(lane) || n > MOST_CELLS) {
            return BAD;
        }
        if (n < 0) {
            return FAULTY - SIZE;
        }
        sheets[k].renew(lane, n);
        return 1;
    }

    public int lay(int k, int i, long v) {
        if (!isSheet(k)) {
            return BAD;
        }
        if (sheets[k].isNothing()) {
            return FAULTY - NULL;
        }
        if (!sheets[k].hasCell(i)) {
            return FAULTY - INDEX;
        }
        sheets[k].put(i, v);
        return 1;
    }

    public long look(int k, int i) {
        return isSheet(k) && sheets[k].hasCell(i) ? sheets[k].cells[i] : 0;
    }

    public int read(int k, int lane, int f, int n) {
        if (!isSheet(k) || !isLane(lane) || !within(n, 0, MOST_PLACES) || f < 0) {
            return BAD;
        }
        draft.row.clear();
        for (int taken = 0; taken < n; taken++) {
            int fault = sheets[k].faultOfBit(lane, (long) f + taken);
            if (fault != 0) {
                return FAULTY - fault;
            }
            draft.row.append(sheets[k].bitAt(f + taken));
        }
        draft.row.summarise(0);
        if (!draft.row.isOfTree()) {
            return STATE;
        }
        draft.forgetWeights();
        tree.become(draft);
        return tree.nodes();
    }

    public int stow(int k, int lane, int f) {
        if (!isSheet(k) || !isLane(lane) || f < 0) {
            return BAD;
        }
        latestTorn = 0;
        for (int laid = 0; laid < tree.row.places; laid++) {
            latestTorn = sheets[k].faultOfBit(lane, (long) f + laid);
            if (latestTorn != 0) {
                return laid;
            }
            sheets[k].putBit(f + laid, tree.row.bitAt(laid));
        }
        return tree.row.places;
    }

    public int torn() {
        return latestTorn;
    }

    public int count(int what) {
        switch (what) {
            case 0:
                return (kept[0] ? 1 : 0) + (kept[1] ? 1 : 0);
            case 1:
                return tape.length;
            case 2:
                return sheets[0].isNothing() ? NONE : sheets[0].length;
            case 3:
                return tree.row.opensAtOddPlaces();
            default:
                return BAD;
        }
    }

    // ---- what a number may be

    private static boolean within(int n, int from, int to) {
        return n >= from && n <= to;
    }

    private static boolean isSheet(int k) {
        return within(k, 0, SHEETS - 1);
    }

    private static boolean isLane(int lane) {
        return within(lane, 0, 2);
    }

    private boolean isPlace(int p) {
        return within(p, 0, tree.row.places - 1);
    }

    /** A point lies ahead of a place, or behind the last one: there the excess is asked. */
    private boolean isPoint(int p) {
        return within(p, 0, tree.row.places);
    }

    /** Two longs taken as 128 bits, of which bit 0 is the lowest of the first long. */
    private static final class Bits {
        /** The lowest n bits of a long; n may lie outside 0 to 64. */
        static long firstOf(int n) {
            if (n <= 0) {
                return 0;
            }
            return n >= 64 ? -1L : (1L << n) - 1;
        }

        static long upLow(long low, int n) {
            return n < 64 ? low << n : 0;
        }

        static long upHigh(long low, long high, int n) {
            // Java takes a shift modulo 64, so that 0 and 64 on must stand apart.
            if (n == 0) {
                return high;
            }
            if (n < 64) {
                return high << n | low >>> (64 - n);
            }
            return n < 128 ? low << (n - 64) : 0;
        }

        static long downLow(long low, long high, int n) {
            if (n == 0) {
                return low;
            }
            if (n < 64) {
                return low >>> n | high << (64 - n);
            }
            return n < 128 ? high >>> (n - 64) : 0;
        }

        static long downHigh(long high, int n) {
            return n < 64 ? high >>> n : 0;
        }

        /** Where the k-th (0 on) bit that is 1 is; there must be one. */
        static int indexOfOne(long word, int k) {
            long rest = word;
            for (int i = 0; i < k; i++) {
                rest &= rest - 1;
            }
            return Long.bitCount((rest & -rest) - 1);
        }
    }

    /** A row of parentheses, ( being 1, with a summary of each block. Bits behind its end are 0. */
    private static final class Row {
        private long low;
        private long high;
        private int places;
        /** By how much the excess is more behind a block; the least and the greatest in it. */
        private final int[] gains = new int[MOST_BLOCKS];
        private final int[] lows = new int[MOST_BLOCKS];
        private final int[] highs = new int[MOST_BLOCKS];

        int blocks() {
            return (places + BLOCK - 1) / BLOCK;
        }

        int bitAt(int p) {
            return (int) ((p < 64 ? low : high) >>> (p & 63)) & 1;
        }

        /** By how much the excess is more behind a place than ahead of it. */
        int stepAt(int p) {
            return ((p < 64 ? low : high) >>> (p & 63) & 1) == 1 ? 1 : -1;
        }

        int excessAt(int p) {
            return 2 * Long.bitCount(low & Bits.firstOf(p)) + 2 * Long.bitCount(high & Bits.firstOf(p - 64)) - p;
        }

        int opensAhead(int p) {
            return (p + excessAt(p)) / 2;
        }

        int opensAtOddPlaces() {
            long odd = 0xAAAAAAAAAAAAAAAAL;
            return Long.bitCount(low & odd) + Long.bitCount(high & odd);
        }

        // ---- signs: a bit for each place at which one is

        private long signsLow(int what) {
            if (what == OPENS) {
                return low;
            }
            return what == CLOSES ? ~low & Bits.firstOf(places) : low & ~Bits.downLow(low, high, 1);
        }

        private long signsHigh(int what) {
            if (what == OPENS) {
                return high;
            }
            return what == CLOSES ? ~high & Bits.firstOf(places - 64) : high & ~Bits.downHigh(high, 1);
        }

        int signsAhead(int p, int what) {
            return Long.bitCount(signsLow(what) & Bits.firstOf(p))
                    + Long.bitCount(signsHigh(what) & Bits.firstOf(p - 64));
        }

        int placeOfSign(int k, int what) {
            long first = signsLow(what);
            int inFirst = Long.bitCount(first);
            if (k < inFirst) {
                return Bits.indexOfOne(first, k);
            }
            long second = signsHigh(what);
            int rest = k - inFirst;
            return rest < Long.bitCount(second) ? 64 + Bits.indexOfOne(second, rest) : NONE;
        }

        // ---- searches

        /** Whether the excess is somewhere in a block by just so much more than ahead of it. */
        private boolean reaches(int b, int more) {
            return lows[b] <= more && more <= highs[b];
        }

        int searchOn(int p, int d) {
            int e = excessAt(p);
            int q = p;
            while (q < places) {
                if (q % BLOCK == 0 && !reaches(q / BLOCK, d - e)) {
                    e += gains[q / BLOCK];
                    q += BLOCK;
                } else {
                    e += stepAt(q);
                    q++;
                    if (e == d) {
                        return q;
                    }
                }
            }
            return NONE;
        }

        int searchBack(int p, int d) {
            int e = excessAt(p);
            int q = p;
            while (q > 0) {
                q--;
                e -= stepAt(q);
                // A summary tells of the points behind its block's places: q is the last of them.
                while (q >= BLOCK && q % BLOCK == 0 && !reaches(q / BLOCK - 1, d - e + gains[q / BLOCK - 1])) {
                    q -= BLOCK;
                    e -= gains[q / BLOCK];
                }
                if (e == d) {
                    return q;
                }
            }
            return NONE;
        }

        int partnerOf(int p) {
            if (bitAt(p) == 1) {
                return searchOn(p, excessAt(p)) - 1;
            }
            return searchBack(p, excessAt(p + 1));
        }

        /** The greatest (or the least) excess at points i to j. */
        int extremeIn(int i, int j, boolean greatest) {
            int e = excessAt(i);
            int best = e;
            int q = i;
            while (q < j) {
                int found;
                if (q % BLOCK == 0 && q + BLOCK <= j) {
                    int b = q / BLOCK;
                    found = e + (greatest ? highs[b] : lows[b]);
                    e += gains[b];
                    q += BLOCK;
                } else {
                    e += stepAt(q);
                    found = e;
                    q++;
                }
                best = greatest ? Math.max(best, found) : Math.min(best, found);
            }
            return best;
        }

        /** The first point from i on with an excess that is known to be at one. */
        int firstWith(int i, int d) {
            return excessAt(i) == d ? i : searchOn(i, d);
        }

        /** How many of the points i to j have that excess. */
        int pointsWith(int i, int j, int d) {
            int e = excessAt(i);
            int points = e == d ? 1 : 0;
            for (int q = i; q < j; q++) {
                e += stepAt(q);
                if (e == d) {
                    points++;
                }
            }
            return points;
        }

        /** Whether the row is that of one tree, or of none: the excess comes back to 0 just at its end. */
        boolean isOfTree() {
            return places == 0 || bitAt(0) == 1 && searchOn(0, 0) == places;
        }

        // ---- changes

        void clear() {
            low = 0;
            high = 0;
            places = 0;
        }

        /** Summaries are not true behind it until summarise() is called. */
        void append(int bit) {
            if (places >= MOST_PLACES) {
                return;
            }
            if (places < 64) {
                low |= (long) bit << places;
            } else {
                high |= (long) bit << (places - 64);
            }
            places++;
        }

        long takenLow(int p, int n) {
            return Bits.downLow(low, high, p) & Bits.firstOf(n);
        }

        long takenHigh(int p, int n) {
            return Bits.downHigh(high, p) & Bits.firstOf(n - 64);
        }

        void remove(int p, int n) {
            long stayLow = Bits.firstOf(p);
            long stayHigh = Bits.firstOf(p - 64);
            long newLow = low & stayLow | Bits.downLow(low, high, n) & ~stayLow;
            high = high & stayHigh | Bits.downHigh(high, n) & ~stayHigh;
            low = newLow;
            places -= n;
            summarise(p);
        }

        void insert(int p, int n, long newLow, long newHigh) {
            long stayLow = Bits.firstOf(p);
            long stayHigh = Bits.firstOf(p - 64);
            long goLow = low & ~stayLow;
            long goHigh = high & ~stayHigh;
            high = high & stayHigh | Bits.upHigh(goLow, goHigh, n) | Bits.upHigh(newLow, newHigh, p);
            low = low & stayLow | Bits.upLow(goLow, n) | Bits.upLow(newLow, p);
            places += n;
            summarise(p);
        }

        void become(Row other) {
            low = other.low;
            high = other.high;
            places = other.places;
            System.arraycopy(other.gains, 0, gains, 0, MOST_BLOCKS);
            System.arraycopy(other.lows, 0, lows, 0, MOST_BLOCKS);
            System.arraycopy(other.highs, 0, highs, 0, MOST_BLOCKS);
        }

        /** Blocks ahead of a place that changed have kept their bits and so their summaries. */
        void summarise(int from) {
            for (int b = from / BLOCK; b < MOST_BLOCKS; b++) {
                summariseBlock(b);
            }
        }

        private void summariseBlock(int b) {
            int e = 0;
            int lowest = BLOCK;
            int highest = -BLOCK;
            int last = Math.min(places, BLOCK * b + BLOCK);
            for (int p = BLOCK * b; p < last; p++) {
                e += stepAt(p);
                lowest = Math.min(lowest, e);
                highest = Math.max(highest, e);
            }
            gains[b] = e;
            lows[b] = lowest;
            highs[b] = highest;
        }
    }

    /** A row that is a tree's, or nothing, and the weights of its nodes. */
    private static final class Tree {
        private final Row row = new Row();
        private final int[] weights = new int[MOST_NODES];
        /** Weights of a subtree while it is moved. */
        private final int[] carried = new int[MOST_NODES];

        int nodes() {
            return row.places / 2;
        }

        boolean has(int v) {
            return v >= 0 && v < nodes();
        }

        // ---- places of nodes

        int openOf(int v) {
            return row.placeOfSign(v, OPENS);
        }

        int closeOf(int v) {
            return row.partnerOf(openOf(v));
        }

        int nodeWithPlace(int p) {
            return row.opensAhead(row.bitAt(p) == 1 ? p : row.partnerOf(p));
        }

        /** Where the i-th child begins; the ) of the node, if it has not so many. */
        int placeForChild(int v, int i) {
            int q = openOf(v) + 1;
            int e = row.excessAt(q);
            // Behind a child the excess is again what it was ahead of it.
            for (int k = 0; k < i && row.bitAt(q) == 1; k++) {
                q = row.searchOn(q, e);
            }
            return q;
        }

        // ---- nodes near a node

        int depthOf(int v) {
            return row.excessAt(openOf(v));
        }

        int aboveBy(int v, int k) {
            int p = openOf(v);
            int depth = row.excessAt(p);
            if (k > depth) {
                return NONE;
            }
            return row.opensAhead(row.searchBack(p + 1, depth - k));
        }

        int firstChildOf(int v) {
            return row.bitAt(openOf(v) + 1) == 1 ? v + 1 : NONE;
        }

        int lastChildOf(int v) {
            int p = closeOf(v) - 1;
            return row.bitAt(p) == 0 ? nodeWithPlace(p) : NONE;
        }

        int nextChildAfter(int v) {
            int p = closeOf(v) + 1;
            return p < row.places && row.bitAt(p) == 1 ? nodeWithPlace(p) : NONE;
        }

        int childBefore(int v) {
            int p = openOf(v) - 1;
            return p >= 0 && row.bitAt(p) == 0 ? nodeWithPlace(p) : NONE;
        }

        /** From its ( on to its ) the excess is that of its children ahead of each and behind the last. */
        int childrenOf(int v) {
            int p = openOf(v);
            return row.pointsWith(p + 1, row.partnerOf(p), row.excessAt(p) + 1) - 1;
        }

        int childAt(int v, int i) {
            int q = placeForChild(v, i);
            return row.bitAt(q) == 1 ? row.opensAhead(q) : NONE;
        }

        int orderOf(int v) {
            if (v == 0) {
                return 0;
            }
            int p = openOf(v);
            return row.pointsWith(openOf(aboveBy(v, 1)) + 1, p, row.excessAt(p)) - 1;
        }

        // ---- what is below a node

        int nodesOf(int v) {
            int p = openOf(v);
            return (row.partnerOf(p) - p + 1) / 2;
        }

        int leavesOf(int v) {
            int p = openOf(v);
            return row.signsAhead(row.partnerOf(p), PAIRS) - row.signsAhead(p, PAIRS);
        }

        int heightOf(int v) {
            int p = openOf(v);
            return row.extremeIn(p, row.partnerOf(p), true) - row.excessAt(p) - 1;
        }

        int deepestOf(int v) {
            int p = openOf(v);
            return row.opensAhead(row.firstWith(p, row.extremeIn(p, row.partnerOf(p), true)) - 1);
        }

        boolean isAbove(int v, int u) {
            return u >= v && u < v + nodesOf(v);
        }

        boolean haveLikeRows(int u, int v) {
            int n = 2 * nodesOf(u);
            if (n != 2 * nodesOf(v)) {
                return false;
            }
            int p = openOf(u);
            int q = openOf(v);
            return row.takenLow(p, n) == row.takenLow(q, n) && row.takenHigh(p, n) == row.takenHigh(q, n);
        }

        // ---- nodes far from a node

        int meetingOf(int u, int v) {
            int behindFirst = openOf(Math.min(u, v)) + 1;
            int behindSecond = openOf(Math.max(u, v)) + 1;
            // From one to the other the excess comes down to just behind the ( of where they meet.
            int depth = row.extremeIn(behindFirst, behindSecond, false) - 1;
            return row.opensAhead(row.searchBack(behindFirst, depth));
        }

        /** Of the nodes of that depth whose ( is behind a point at which the excess is not above it. */
        int firstOfDepth(int d, int from) {
            int q = row.searchOn(from, d + 1);
            return q == NONE ? NONE : row.opensAhead(q - 1);
        }

        /** Of the nodes of that depth whose ) is ahead of a point at which the excess is not above it. */
        int lastOfDepth(int d, int to) {
            int q = row.searchBack(to, d + 1);
            return q == NONE ? NONE : nodeWithPlace(q);
        }

        int howManyOfDepth(int d) {
            int found = 0;
            int e = 0;
            for (int p = 0; p < row.places; p++) {
                int step = row.stepAt(p);
                if (step == 1 && e == d) {
                    found++;
                }
                e += step;
            }
            return found;
        }

        // ---- weights

        long weightBelow(int v) {
            int behind = Math.min(v + nodesOf(v), MOST_NODES);
            long all = 0;
            for (int u = v; u < behind; u++) {
                all += weights[u];
            }
            return all;
        }

        long weightAbove(int v) {
            long all = 0;
            int u = v;
            for (int steps = 0; steps < MOST_NODES && has(u); steps++) {
                all += weights[u];
                u = aboveBy(u, 1);
            }
            return all;
        }

        int heaviestOf(int v) {
            int behind = Math.min(v + nodesOf(v), MOST_NODES);
            int best = v;
            for (int u = v + 1; u < behind; u++) {
                if (weights[u] > weights[best]) {
                    best = u;
                }
            }
            return best;
        }

        void forgetWeights() {
            for (int v = 0; v < MOST_NODES; v++) {
                weights[v] = 0;
            }
        }

        // ---- edits; weights are moved while the row still tells how many nodes there are

        private void openWeights(int v, int n) {
            System.arraycopy(weights, v, weights, v + n, nodes() - v);
        }

        private void closeWeights(int v, int n) {
            System.arraycopy(weights, v + n, weights, v, nodes() - v - n);
        }

        int addLeafAt(int p, int w) {
            int v = row.opensAhead(p);
            openWeights(v, 1);
            weights[v] = w;
            row.insert(p, 2, 1, 0);
            return v;
        }

        int addAbout(int from, int to, int w) {
            int v = row.opensAhead(from);
            openWeights(v, 1);
            weights[v] = w;
            // The one behind goes first, so that the one ahead does not move its place.
            row.insert(to, 1, 0, 0);
            row.insert(from, 1, 1, 0);
            return v;
        }

        void removeSubtree(int v) {
            int n = nodesOf(v);
            int p = openOf(v);
            closeWeights(v, n);
            row.remove(p, 2 * n);
        }

        void removeAlone(int v) {
            int p = openOf(v);
            int q = row.partnerOf(p);
            closeWeights(v, 1);
            row.remove(q, 1);
            row.remove(p, 1);
        }

        int moveSubtree(int v, int u, int i) {
            int n = nodesOf(v);
            int p = openOf(v);
            long movedLow = row.takenLow(p, 2 * n);
            long movedHigh = row.takenHigh(p, 2 * n);
            System.arraycopy(weights, v, carried, 0, n);
            closeWeights(v, n);
            row.remove(p, 2 * n);
            int to = placeForChild(u > v ? u - n : u, i);
            int then = row.opensAhead(to);
            openWeights(then, n);
            System.arraycopy(carried, 0, weights, then, n);
            row.insert(to, 2 * n, movedLow, movedHigh);
            return then;
        }

        void become(Tree other) {
            row.become(other.row);
            System.arraycopy(other.weights, 0, weights, 0, MOST_NODES);
        }
    }

    /** The tape, and how a text on it is read. */
    private static final class Tape {
        private static final int BLANK = 32, OPEN = 40, CLOSE = 41, FIGURE_0 = 48, FIGURE_9 = 57;
        /** Kinds of tokens beside ( and ) , which are told by their bytes. */
        private static final int AT_END = 0, NUMBER = 1, UNKNOWN = 2;

        private final byte[] bytes = new byte[MOST_BYTES];
        private int length;
        /** Where the next token is sought, and where the latest one began. */
        private int at;
        private int start;
        private int number;
        private int latestFault;

        boolean put(int c) {
            if (length >= MOST_BYTES) {
                return false;
            }
            bytes[length] = (byte) c;
            length++;
            return true;
        }

        /** The text becomes a tree; or latestFault is not 0, and start is its place. */
        void tell(Tree told) {
            told.row.clear();
            at = 0;
            int before = AT_END;
            // Each token but the end has a byte, so there are no more than these.
            for (int tokens = 0; tokens <= length; tokens++) {
                int token = nextToken();
                latestFault = faultOf(token, before, told.row);
                if (latestFault != 0 || token == AT_END) {
                    break;
                }
                take(token, told);
                before = token;
            }
            told.row.summarise(0);
        }

        private int faultOf(int token, int before, Row begun) {
            int nodes = begun.opensAhead(begun.places);
            boolean isOpen = begun.excessAt(begun.places) > 0;
            switch (token) {
                case AT_END:
                    return isOpen ? MISPLACED : 0;
                case NUMBER:
                    return before == OPEN ? 0 : MISPLACED;
                case OPEN:
                    if (nodes > 0 && !isOpen) {
                        return MISPLACED;
                    }
                    return nodes < MOST_NODES ? 0 : TOO_MANY;
                case CLOSE:
                    return isOpen ? 0 : MISPLACED;
                default:
                    return NO_TOKEN;
            }
        }

        private void take(int token, Tree told) {
            if (token == CLOSE) {
                told.row.append(0);
                return;
            }
            int nodes = told.row.opensAhead(told.row.places);
            if (token == OPEN && nodes < MOST_NODES) {
                told.row.append(1);
                told.weights[nodes] = 0;
            } else if (token == NUMBER && nodes > 0) {
                told.weights[nodes - 1] = number;
            }
        }

        private int nextToken() {
            while (at < length && bytes[at] == BLANK) {
                at++;
            }
            start = at;
            if (at >= length) {
                return AT_END;
            }
            int c = bytes[at];
            if (isFigure(c)) {
                return numberToken();
            }
            at++;
            return c == OPEN || c == CLOSE ? c : UNKNOWN;
        }

        private int numberToken() {
            number = 0;
            while (at < length && isFigure(bytes[at])) {
                // One that is too long wraps around here, but is not taken.
                number = 10 * number + bytes[at] - FIGURE_0;
                at++;
            }
            return at - start <= MOST_FIGURES ? NUMBER : UNKNOWN;
        }

        private static boolean isFigure(int c) {
            return c >= FIGURE_0 && c <= FIGURE_9;
        }
    }

    /** A row of bytes, ints or longs; each cell is held as a long of the same value. */
    private static final class Sheet {
        private static final int NOTHING = -1, BYTES = 0, INTS = 1;

        private final long[] cells = new long[MOST_CELLS];
        private int kind = NOTHING;
        private int length;

        boolean isNothing() {
            return kind == NOTHING;
        }

        boolean hasCell(int i) {
            return i >= 0 && i < length;
        }

        void renew(int lane, int n) {
            kind = lane;
            length = n;
            for (int i = 0; i < MOST_CELLS; i++) {
                cells[i] = 0;
            }
        }

        void put(int i, long v) {
            if (kind == BYTES) {
                cells[i] = (byte) v;
            } else if (kind == INTS) {
                cells[i] = (int) v;
            } else {
                cells[i] = v;
            }
        }

        private int bitsOfCell() {
            if (kind == BYTES) {
                return 8;
            }
            return kind == INTS ? 32 : 64;
        }

        /** What the machine would find when that bit is reached in a row taken as of a lane. */
        int faultOfBit(int lane, long f) {
            if (isNothing()) {
                return NULL;
            }
            if (kind != lane) {
                return CAST;
            }
            return f / bitsOfCell() < length ? 0 : INDEX;
        }

        int bitAt(int f) {
            int bits = bitsOfCell();
            return (int) (cells[f / bits] >>> (f % bits)) & 1;
        }

        void putBit(int f, int bit) {
            int i = f / bitsOfCell();
            long one = 1L << (f % bitsOfCell());
            put(i, bit == 1 ? cells[i] | one : cells[i] & ~one);
        }
    }
}
