import java.util.ArrayList;
import java.util.List;
import java.util.Random;
import java.util.regex.Matcher;
import java.util.regex.Pattern;

/** Runs of calls by a seed on an ExcessTree and on a plain model beside it: their answers must be the same. */
public final class ModelTest {
    private static final int OBJECTS = 4000;
    private static final int CALLS = 512;
    private static final int[] ODD_NUMBERS = {
        -1, -2, 0, 1, 2, 3, 4, 13, 14, 15, 16, 17, 31, 32, 33, 39, 40, 41, 63, 64, 65, 127, 128, 129, 160, 161, 319,
        320, 1279, 1280, 2559, 2560, Integer.MAX_VALUE, Integer.MAX_VALUE - 1, Integer.MIN_VALUE, Integer.MIN_VALUE + 1
    };

    /** A node with pointers; nothing of the row is kept, all is told from the nodes when it is asked. */
    private static final class N {
        N parent;
        int weight;
        final List<N> children = new ArrayList<>();

        N(N parent, int weight) {
            this.parent = parent;
            this.weight = weight;
        }

        int depth() {
            return parent == null ? 0 : 1 + parent.depth();
        }

        boolean isAbove(N other) {
            for (N n = other; n != null; n = n.parent) {
                if (n == this) {
                    return true;
                }
            }
            return false;
        }

        String shape() {
            StringBuilder s = new StringBuilder("(");
            for (N c : children) {
                s.append(c.shape());
            }
            return s.append(')').toString();
        }

        void fromAbove(List<N> into) {
            into.add(this);
            for (N c : children) {
                c.fromAbove(into);
            }
        }

        void fromBelow(List<N> into) {
            for (N c : children) {
                c.fromBelow(into);
            }
            into.add(this);
        }

        List<N> all() {
            List<N> found = new ArrayList<>();
            fromAbove(found);
            return found;
        }

        N copy(N above) {
            N n = new N(above, weight);
            for (N c : children) {
                n.children.add(c.copy(n));
            }
            return n;
        }
    }

    /** What the document says, put as plainly as can be. */
    private static final class Model {
        static final int BAD = -1, STATE = -2, FULL = -3, NONE = -4, OVER = -5;
        static final int[] WIDTH = {8, 32, 64};
        N root;
        String tape = "";
        int fault;
        int torn;
        final N[] images = new N[2];
        final boolean[] kept = new boolean[2];
        final Object[] sheets = new Object[4];

        List<N> all() {
            return root == null ? new ArrayList<>() : root.all();
        }

        N at(int v) {
            List<N> all = all();
            return v >= 0 && v < all.size() ? all.get(v) : null;
        }

        int numberOf(N n) {
            return n == null ? NONE : all().indexOf(n);
        }

        String row() {
            return root == null ? "" : root.shape();
        }

        int[] excesses() {
            String r = row();
            int[] e = new int[r.length() + 1];
            for (int p = 0; p < r.length(); p++) {
                e[p + 1] = e[p] + (r.charAt(p) == '(' ? 1 : -1);
            }
            return e;
        }

        int feed(int c) {
            if (c < 0 || c > 127) {
                return BAD;
            }
            if (tape.length() == 160) {
                return FULL;
            }
            tape += (char) c;
            return tape.length();
        }

        int end(int n) {
            if (n < 0 || n > tape.length()) {
                return BAD;
            }
            int had = tape.length();
            tape = tape.substring(0, n);
            return had;
        }

        int text() {
            String t = tape;
            tape = "";
            int place = tell(t);
            return fault != 0 ? -10 - place : all().size();
        }

        private int tell(String t) {
            Matcher m = Pattern.compile(" *([0-9]+|[()]|[^ ]|$)").matcher(t);
            N first = null;
            N open = null;
            int nodes = 0;
            String before = "";
            while (m.find()) {
                String token = m.group(1);
                int place = m.start(1);
                fault = 0;
                if (token.isEmpty()) {
                    fault = open == null ? 0 : 2;
                    if (fault == 0) {
                        root = first;
                        kept[0] = false;
                        kept[1] = false;
                    }
                    return place;
                }
                if (token.equals("(")) {
                    fault = open == null && first != null ? 2 : nodes == 64 ? 5 : 0;
                } else if (token.equals(")")) {
                    fault = open == null ? 2 : 0;
                } else if (Character.isDigit(token.charAt(0))) {
                    fault = token.length() > 4 ? 1 : before.equals("(") ? 0 : 2;
                } else {
                    fault = 1;
                }
                if (fault != 0) {
                    return place;
                }
                if (token.equals("(")) {
                    N n = new N(open, 0);
                    if (open == null) {
                        first = n;
                    } else {
                        open.children.add(n);
                    }
                    open = n;
                    nodes++;
                } else if (token.equals(")")) {
                    open = open.parent;
                } else {
                    open.weight = Integer.parseInt(token);
                }
                before = token;
            }
            throw new IllegalStateException(t);
        }

        int size(int what) {
            int most = NONE;
            int leaves = 0;
            for (N n : all()) {
                most = Math.max(most, n.depth());
                leaves += n.children.isEmpty() ? 1 : 0;
            }
            int nodes = all().size();
            return switch (what) {
                case 0 -> nodes;
                case 1 -> leaves;
                case 2 -> most;
                case 3 -> 2 * nodes;
                case 4 -> (2 * nodes + 15) / 16;
                default -> BAD;
            };
        }

        int bit(int p) {
            String r = row();
            return p < 0 || p >= r.length() ? BAD : r.charAt(p) == '(' ? 1 : 0;
        }

        int excess(int p) {
            return p < 0 || p > row().length() ? BAD : excesses()[p];
        }

        private List<Integer> signs(String r, int what) {
            String sign = what == 0 ? "(" : what == 1 ? ")" : "()";
            List<Integer> found = new ArrayList<>();
            for (int p = r.indexOf(sign); p >= 0; p = r.indexOf(sign, p + 1)) {
                found.add(p);
            }
            return found;
        }

        int rank(int p, int what) {
            String r = row();
            if (p < 0 || p > r.length() || what < 0 || what > 2) {
                return BAD;
            }
            return signs(r.substring(0, p), what).size();
        }

        int select(int k, int what) {
            if (k < 0 || what < 0 || what > 2) {
                return BAD;
            }
            List<Integer> found = signs(row(), what);
            return k < found.size() ? found.get(k) : NONE;
        }

        int forward(int p, int d) {
            int[] e = excesses();
            if (p < 0 || p >= e.length) {
                return BAD;
            }
            for (int q = p + 1; q < e.length; q++) {
                if (e[q] == d) {
                    return q;
                }
            }
            return NONE;
        }

        int backward(int p, int d) {
            int[] e = excesses();
            if (p < 0 || p >= e.length) {
                return BAD;
            }
            for (int q = p - 1; q >= 0; q--) {
                if (e[q] == d) {
                    return q;
                }
            }
            return NONE;
        }

        private int openOf(N n) {
            return signs(row(), 0).get(numberOf(n));
        }

        private int closeOf(N n) {
            return openOf(n) + n.shape().length() - 1;
        }

        int match(int p) {
            for (N n : all()) {
                if (openOf(n) == p) {
                    return closeOf(n);
                }
                if (closeOf(n) == p) {
                    return openOf(n);
                }
            }
            return BAD;
        }

        int least(int i, int j, int what) {
            int[] e = excesses();
            if (i < 0 || j >= e.length || i > j || what < 0 || what > 3) {
                return BAD;
            }
            int low = Integer.MAX_VALUE;
            int high = Integer.MIN_VALUE;
            int first = -1;
            int times = 0;
            for (int q = i; q <= j; q++) {
                high = Math.max(high, e[q]);
                if (e[q] < low) {
                    low = e[q];
                    first = q;
                    times = 0;
                }
                times += e[q] == low ? 1 : 0;
            }
            return new int[] {low, first, times, high}[what];
        }

        int block(int b, int what) {
            int[] e = excesses();
            if (b < 0 || b >= size(4) || what < 0 || what > 2) {
                return BAD;
            }
            int from = 16 * b;
            int to = Math.min(from + 16, e.length - 1);
            if (what == 0) {
                return 100 + e[to] - e[from];
            }
            return 100 + least(from + 1, to, what == 1 ? 0 : 3) - e[from];
        }

        private N sibling(N n, int by) {
            if (n.parent == null) {
                return null;
            }
            int i = n.parent.children.indexOf(n) + by;
            return i >= 0 && i < n.parent.children.size() ? n.parent.children.get(i) : null;
        }

        int node(int v, int what) {
            N n = at(v);
            if (n == null) {
                return BAD;
            }
            int children = n.children.size();
            int leaves = 0;
            int height = 0;
            for (N m : n.all()) {
                leaves += m.children.isEmpty() ? 1 : 0;
                height = Math.max(height, m.depth() - n.depth());
            }
            List<N> order = new ArrayList<>();
            root.fromBelow(order);
            return switch (what) {
                case 0 -> openOf(n);
                case 1 -> closeOf(n);
                case 2 -> n.depth();
                case 3 -> numberOf(n.parent);
                case 4 -> children == 0 ? NONE : numberOf(n.children.get(0));
                case 5 -> children == 0 ? NONE : numberOf(n.children.get(children - 1));
                case 6 -> numberOf(sibling(n, 1));
                case 7 -> numberOf(sibling(n, -1));
                case 8 -> children;
                case 9 -> n.all().size();
                case 10 -> leaves;
                case 11 -> height;
                case 12 -> order.indexOf(n);
                case 13 -> n.parent == null ? 0 : n.parent.children.indexOf(n);
                default -> BAD;
            };
        }

        int child(int v, int i) {
            N n = at(v);
            if (n == null || i < 0) {
                return BAD;
            }
            return i < n.children.size() ? numberOf(n.children.get(i)) : NONE;
        }

        int below(int i) {
            if (at(i) == null) {
                return BAD;
            }
            List<N> order = new ArrayList<>();
            root.fromBelow(order);
            return numberOf(order.get(i));
        }

        int up(int v, int k) {
            N n = at(v);
            if (n == null || k < 0) {
                return BAD;
            }
            for (int i = 0; i < k && n != null; i++) {
                n = n.parent;
            }
            return numberOf(n);
        }

        int meet(int u, int v) {
            if (at(u) == null || at(v) == null) {
                return BAD;
            }
            N n = at(u);
            while (!n.isAbove(at(v))) {
                n = n.parent;
            }
            return numberOf(n);
        }

        int way(int u, int v) {
            if (at(u) == null || at(v) == null) {
                return BAD;
            }
            return at(u).depth() + at(v).depth() - 2 * at(meet(u, v)).depth();
        }

        private List<Integer> ofDepth(int d) {
            List<Integer> found = new ArrayList<>();
            for (N n : all()) {
                if (n.depth() == d) {
                    found.add(numberOf(n));
                }
            }
            return found;
        }

        int level(int d, int what) {
            if (d < 0 || what < 0 || what > 2) {
                return BAD;
            }
            List<Integer> found = ofDepth(d);
            if (what == 2) {
                return found.size();
            }
            return found.isEmpty() ? NONE : found.get(what == 0 ? 0 : found.size() - 1);
        }

        int beside(int v, int what) {
            if (at(v) == null || what < 0 || what > 1) {
                return BAD;
            }
            List<Integer> found = ofDepth(at(v).depth());
            int i = found.indexOf(v) + (what == 0 ? 1 : -1);
            return i >= 0 && i < found.size() ? found.get(i) : NONE;
        }

        int deepest(int v) {
            if (at(v) == null) {
                return BAD;
            }
            N best = at(v);
            for (N n : at(v).all()) {
                best = n.depth() > best.depth() ? n : best;
            }
            return numberOf(best);
        }

        int alike(int u, int v) {
            if (at(u) == null || at(v) == null) {
                return BAD;
            }
            return at(u).shape().equals(at(v).shape()) ? 1 : 0;
        }

        int weight(int v) {
            return at(v) == null ? BAD : at(v).weight;
        }

        int set(int v, int w) {
            if (at(v) == null || w < 0) {
                return BAD;
            }
            int was = at(v).weight;
            at(v).weight = w;
            return was;
        }

        int sum(int v, int what) {
            if (at(v) == null || what < 0 || what > 1) {
                return BAD;
            }
            long all = 0;
            for (N n : all()) {
                if (what == 0 ? at(v).isAbove(n) : n.isAbove(at(v))) {
                    all += n.weight;
                }
            }
            return all > Integer.MAX_VALUE ? OVER : (int) all;
        }

        int heaviest(int v) {
            if (at(v) == null) {
                return BAD;
            }
            N best = at(v);
            for (N n : at(v).all()) {
                best = n.weight > best.weight ? n : best;
            }
            return numberOf(best);
        }

        int plant(int w) {
            if (w < 0) {
                return BAD;
            }
            if (root != null) {
                return STATE;
            }
            root = new N(null, w);
            return 0;
        }

        int leaf(int v, int i, int w) {
            N n = at(v);
            if (n == null || i < 0 || i > n.children.size() || w < 0) {
                return BAD;
            }
            if (all().size() == 64) {
                return FULL;
            }
            N come = new N(n, w);
            n.children.add(i, come);
            return numberOf(come);
        }

        int prune(int v) {
            if (at(v) == null) {
                return BAD;
            }
            if (!at(v).children.isEmpty()) {
                return STATE;
            }
            fell(v);
            return all().size();
        }

        int fell(int v) {
            N n = at(v);
            if (n == null) {
                return BAD;
            }
            if (n.parent == null) {
                root = null;
            } else {
                n.parent.children.remove(n);
            }
            return n.all().size();
        }

        int wrap(int v, int i, int k, int w) {
            N n = at(v);
            if (n == null || i < 0 || k < 0 || w < 0 || (long) i + k > n.children.size()) {
                return BAD;
            }
            if (all().size() == 64) {
                return FULL;
            }
            N come = new N(n, w);
            for (int j = 0; j < k; j++) {
                N c = n.children.remove(i);
                c.parent = come;
                come.children.add(c);
            }
            n.children.add(i, come);
            return numberOf(come);
        }

        int melt(int v) {
            N n = at(v);
            if (n == null) {
                return BAD;
            }
            if (n.parent == null) {
                if (n.children.size() != 1) {
                    return STATE;
                }
                root = n.children.get(0);
                root.parent = null;
                return all().size();
            }
            int i = n.parent.children.indexOf(n);
            n.parent.children.remove(i);
            n.parent.children.addAll(i, n.children);
            for (N c : n.children) {
                c.parent = n.parent;
            }
            return all().size();
        }

        int graft(int v, int u, int i) {
            N n = at(v);
            N to = at(u);
            if (n == null || to == null) {
                return BAD;
            }
            if (n == root || n.isAbove(to)) {
                return STATE;
            }
            if (i < 0 || i > to.children.size() - (n.parent == to ? 1 : 0)) {
                return BAD;
            }
            n.parent.children.remove(n);
            to.children.add(i, n);
            n.parent = to;
            return numberOf(n);
        }

        int grow(int seed, int n) {
            if (n < 1 || n > 64) {
                return BAD;
            }
            root = new N(null, 0);
            int s = seed;
            for (int nodes = 1; nodes < n; nodes++) {
                s = s * 1103515245 + 12345;
                N above = at((s >> 16 & 0x7fff) % nodes);
                above.children.add(new N(above, 0));
            }
            return size(2);
        }

        int keep(int k) {
            if (k < 0 || k > 1) {
                return BAD;
            }
            int was = kept[k] ? 1 : 0;
            kept[k] = true;
            images[k] = root == null ? null : root.copy(null);
            return was;
        }

        int back(int k) {
            if (k < 0 || k > 1) {
                return BAD;
            }
            if (!kept[k]) {
                return STATE;
            }
            root = images[k] == null ? null : images[k].copy(null);
            return all().size();
        }

        // In the model the machine itself finds the faults.

        private static int faultOf(RuntimeException e) {
            if (e instanceof NullPointerException) {
                return 1;
            }
            if (e instanceof IndexOutOfBoundsException) {
                return 2;
            }
            if (e instanceof ClassCastException) {
                return 3;
            }
            if (e instanceof NegativeArraySizeException) {
                return 4;
            }
            throw e;
        }

        private static int laneOf(Object sheet) {
            return sheet instanceof int[] ? 1 : sheet instanceof long[] ? 2 : 0;
        }

        private static long cell(Object sheet, int lane, int i) {
            return lane == 0 ? ((byte[]) sheet)[i] : lane == 1 ? ((int[]) sheet)[i] : ((long[]) sheet)[i];
        }

        private static void putCell(Object sheet, int lane, int i, long v) {
            if (lane == 0) {
                ((byte[]) sheet)[i] = (byte) v;
            } else if (lane == 1) {
                ((int[]) sheet)[i] = (int) v;
            } else {
                ((long[]) sheet)[i] = v;
            }
        }

        int sheet(int k, int lane, int n) {
            if (k < 0 || k > 3 || lane < 0 || lane > 2 || n > 40) {
                return BAD;
            }
            try {
                sheets[k] = lane == 0 ? new byte[n] : lane == 1 ? new int[n] : (Object) new long[n];
                return 1;
            } catch (RuntimeException e) {
                return -10 - faultOf(e);
            }
        }

        int lay(int k, int i, long v) {
            if (k < 0 || k > 3) {
                return BAD;
            }
            try {
                putCell(sheets[k], laneOf(sheets[k]), i, v);
                return 1;
            } catch (RuntimeException e) {
                return -10 - faultOf(e);
            }
        }

        long look(int k, int i) {
            if (k < 0 || k > 3) {
                return 0;
            }
            try {
                return cell(sheets[k], laneOf(sheets[k]), i);
            } catch (RuntimeException e) {
                return 0 * faultOf(e);
            }
        }

        int read(int k, int lane, int f, int n) {
            if (k < 0 || k > 3 || lane < 0 || lane > 2 || n < 0 || n > 128 || f < 0) {
                return BAD;
            }
            StringBuilder r = new StringBuilder();
            try {
                for (long q = f; q < (long) f + n; q++) {
                    long c = cell(sheets[k], lane, (int) (q / WIDTH[lane]));
                    r.append((c >> (q % WIDTH[lane]) & 1) == 1 ? '(' : ')');
                }
            } catch (RuntimeException e) {
                return -10 - faultOf(e);
            }
            int e = 0;
            for (int q = 0; q < n; q++) {
                e += r.charAt(q) == '(' ? 1 : -1;
                if (e < 0 || e == 0 && q < n - 1) {
                    return STATE;
                }
            }
            if (e != 0) {
                return STATE;
            }
            root = null;
            N open = null;
            for (char c : r.toString().toCharArray()) {
                if (c == ')') {
                    open = open.parent;
                    continue;
                }
                N come = new N(open, 0);
                if (open == null) {
                    root = come;
                } else {
                    open.children.add(come);
                }
                open = come;
            }
            return all().size();
        }

        int stow(int k, int lane, int f) {
            if (k < 0 || k > 3 || lane < 0 || lane > 2 || f < 0) {
                return BAD;
            }
            torn = 0;
            String r = row();
            int laid = 0;
            try {
                for (; laid < r.length(); laid++) {
                    long q = (long) f + laid;
                    int i = (int) (q / WIDTH[lane]);
                    long one = 1L << q % WIDTH[lane];
                    long was = cell(sheets[k], lane, i);
                    putCell(sheets[k], lane, i, r.charAt(laid) == '(' ? was | one : was & ~one);
                }
            } catch (RuntimeException e) {
                torn = faultOf(e);
            }
            return laid;
        }

        int count(int what) {
            String r = row();
            int odd = 0;
            for (int p = 1; p < r.length(); p += 2) {
                odd += r.charAt(p) == '(' ? 1 : 0;
            }
            return switch (what) {
                case 0 -> (kept[0] ? 1 : 0) + (kept[1] ? 1 : 0);
                case 1 -> tape.length();
                case 2 -> sheets[0] == null ? NONE : java.lang.reflect.Array.getLength(sheets[0]);
                case 3 -> odd;
                default -> BAD;
            };
        }
    }

    private final Random random;
    private final ExcessTree x = new ExcessTree();
    private final Model m = new Model();
    private final StringBuilder told = new StringBuilder();
    private int calls = 0;
    private boolean same = true;
    /** In some runs every fourth number is an odd one. */
    private final boolean wild;

    private ModelTest(long seed) {
        random = new Random(seed);
        wild = seed % 16 == 0;
    }

    private void due(String call, long got, long want) {
        calls++;
        told.append(call).append(" -> ").append(got).append('\n');
        if (got != want && same) {
            same = false;
            System.out.println(told + "  due is " + want);
        }
    }

    /** Mostly a number from 0 to below n, now and then one just outside or far away. */
    private int any(int n) {
        int way = random.nextInt(wild ? 4 : 40);
        if (way == 0) {
            return ODD_NUMBERS[random.nextInt(ODD_NUMBERS.length)];
        }
        if (way == 1) {
            return random.nextBoolean() ? -1 : n;
        }
        return n <= 0 ? 0 : random.nextInt(n);
    }

    private int anyNode() {
        return any(m.all().size());
    }

    private int anyPoint() {
        return any(m.row().length() + 1);
    }

    private int anyChild(int v) {
        N n = m.at(v);
        return any((n == null ? 0 : n.children.size()) + 1);
    }

    private int anyWeight() {
        return switch (random.nextInt(4)) {
            case 0 -> any(5);
            case 1 -> Integer.MAX_VALUE - random.nextInt(3);
            case 2 -> random.nextInt();
            default -> any(1 << 28);
        };
    }

    private void feed(int c) {
        due("feed(" + c + ")", x.feed(c), m.feed(c));
    }

    private void feedSome() {
        StringBuilder t = new StringBuilder();
        int open = 0;
        int nodes = 0;
        int most = 1 + random.nextInt(20);
        do {
            t.append(" ".repeat(random.nextInt(9) == 0 ? 1 + random.nextInt(2) : 0));
            if (nodes < most && (open == 0 || random.nextInt(5) < 3)) {
                t.append('(').append(random.nextInt(3) == 0 ? "" + random.nextInt(10000) : "");
                nodes++;
                open++;
            } else {
                t.append(')');
                open--;
            }
        } while (open > 0);
        if (random.nextInt(3) == 0) {
            String some = "()x 0912345\t";
            int at = random.nextInt(t.length());
            t.insert(at, some.charAt(random.nextInt(some.length())));
        }
        if (random.nextInt(6) == 0) {
            t.deleteCharAt(random.nextInt(t.length()));
        }
        for (int i = 0; i < t.length() && calls < CALLS - 12; i++) {
            feed(t.charAt(i));
        }
    }

    private void feedMany() {
        int n = 60 + random.nextInt(8);
        boolean chain = random.nextBoolean();
        for (int i = 0; i < n && calls < CALLS - 12; i++) {
            feed('(');
            if (!chain && i > 0) {
                feed(')');
            }
        }
        for (int i = 0; i < (chain ? n : 1) && calls < CALLS - 12; i++) {
            feed(')');
        }
    }

    private void texts() {
        switch (random.nextInt(8)) {
            case 0 -> feed(any(128));
            case 1 -> {
                int n = any(m.tape.length() + 1);
                due("end(" + n + ")", x.end(n), m.end(n));
            }
            case 2 -> {
                feedMany();
                due("text()", x.text(), m.text());
                due("fault()", x.fault(), m.fault);
            }
            case 3, 4 -> {
                feedSome();
                due("text()", x.text(), m.text());
                due("fault()", x.fault(), m.fault);
            }
            default -> due("fault()", x.fault(), m.fault);
        }
    }

    private void rows() {
        int p = anyPoint();
        int q = anyPoint();
        int d = any(12);
        int what = any(3);
        int i = random.nextBoolean() ? p : Math.min(p, q);
        int j = random.nextBoolean() ? q : Math.max(p, q);
        int w = any(5);
        int k = any(65);
        int b = any(m.size(4));
        due("size(" + w + ")", x.size(w), m.size(w));
        due("bit(" + p + ")", x.bit(p), m.bit(p));
        due("excess(" + p + ")", x.excess(p), m.excess(p));
        due("rank(" + p + ", " + what + ")", x.rank(p, what), m.rank(p, what));
        due("select(" + k + ", " + what + ")", x.select(k, what), m.select(k, what));
        due("forward(" + p + ", " + d + ")", x.forward(p, d), m.forward(p, d));
        due("backward(" + p + ", " + d + ")", x.backward(p, d), m.backward(p, d));
        due("match(" + p + ")", x.match(p), m.match(p));
        due("least(" + i + ", " + j + ", " + w + ")", x.least(i, j, w), m.least(i, j, w));
        due("block(" + b + ", " + what + ")", x.block(b, what), m.block(b, what));
    }

    private void nodes() {
        int v = anyNode();
        int u = anyNode();
        int k = any(10);
        int what = any(14);
        int w = any(3);
        int i = anyChild(v);
        due("node(" + v + ", " + what + ")", x.node(v, what), m.node(v, what));
        due("child(" + v + ", " + i + ")", x.child(v, i), m.child(v, i));
        due("below(" + u + ")", x.below(u), m.below(u));
        due("up(" + v + ", " + k + ")", x.up(v, k), m.up(v, k));
        due("meet(" + u + ", " + v + ")", x.meet(u, v), m.meet(u, v));
        due("way(" + u + ", " + v + ")", x.way(u, v), m.way(u, v));
        due("level(" + k + ", " + w + ")", x.level(k, w), m.level(k, w));
        due("beside(" + v + ", " + (w & 1) + ")", x.beside(v, w & 1), m.beside(v, w & 1));
        due("deepest(" + u + ")", x.deepest(u), m.deepest(u));
        due("alike(" + u + ", " + v + ")", x.alike(u, v), m.alike(u, v));
    }

    private void weights() {
        int v = anyNode();
        int w = anyWeight();
        int what = any(2);
        due("set(" + v + ", " + w + ")", x.set(v, w), m.set(v, w));
        due("weight(" + v + ")", x.weight(v), m.weight(v));
        due("sum(" + v + ", " + what + ")", x.sum(v, what), m.sum(v, what));
        due("heaviest(" + v + ")", x.heaviest(v), m.heaviest(v));
    }

    private void edits() {
        int v = anyNode();
        int u = anyNode();
        int i = anyChild(v);
        int j = anyChild(u);
        int k = random.nextInt(3) == 0 ? any(4) : anyChild(v) - i;
        int w = anyWeight();
        switch (m.root == null ? random.nextInt(2) : random.nextInt(14)) {
            case 0 -> due("plant(" + w + ")", x.plant(w), m.plant(w));
            case 1, 2, 3, 4 -> due("leaf(" + v + ", " + i + ", " + w + ")", x.leaf(v, i, w), m.leaf(v, i, w));
            case 5 -> due("prune(" + v + ")", x.prune(v), m.prune(v));
            case 6 -> {
                if (v != 0 || random.nextInt(9) == 0) {
                    due("fell(" + v + ")", x.fell(v), m.fell(v));
                }
            }
            case 7, 8, 9 -> {
                String call = "wrap(" + v + ", " + i + ", " + k + ", " + w + ")";
                due(call, x.wrap(v, i, k, w), m.wrap(v, i, k, w));
            }
            case 10 -> due("melt(" + v + ")", x.melt(v), m.melt(v));
            default -> due("graft(" + v + ", " + u + ", " + j + ")", x.graft(v, u, j), m.graft(v, u, j));
        }
    }

    private void imagesAndSeeds() {
        int k = any(2);
        int seed = random.nextInt();
        int n = 1 + any(64);
        switch (random.nextInt(5)) {
            case 0, 1 -> due("keep(" + k + ")", x.keep(k), m.keep(k));
            case 2, 3 -> due("back(" + k + ")", x.back(k), m.back(k));
            default -> due("grow(" + seed + ", " + n + ")", x.grow(seed, n), m.grow(seed, n));
        }
    }

    private void sheets() {
        int k = any(4);
        Object sheet = k >= 0 && k < 4 ? m.sheets[k] : null;
        int cells = sheet == null ? 0 : java.lang.reflect.Array.getLength(sheet);
        int lane = random.nextInt(5) == 0 ? any(3) : Model.laneOf(sheet);
        int bits = cells * (lane >= 0 && lane < 3 ? Model.WIDTH[lane] : 1);
        int i = any(cells);
        int f = random.nextBoolean() ? any(bits) : any(Math.max(1, bits - m.row().length() + 3));
        int n = random.nextInt(3) == 0 ? any(129) : m.row().length();
        int newLane = any(3);
        int newCells = random.nextInt(4) == 0 ? any(41) : any(20);
        long v = random.nextLong();
        int what = any(4);
        switch (random.nextInt(6)) {
            case 0 -> {
                String call = "sheet(" + k + ", " + newLane + ", " + newCells + ")";
                due(call, x.sheet(k, newLane, newCells), m.sheet(k, newLane, newCells));
            }
            case 1 -> due("lay(" + k + ", " + i + ", " + v + ")", x.lay(k, i, v), m.lay(k, i, v));
            case 2 -> {
                String call = "read(" + k + ", " + lane + ", " + f + ", " + n + ")";
                due(call, x.read(k, lane, f, n), m.read(k, lane, f, n));
            }
            default -> {
                due("stow(" + k + ", " + lane + ", " + f + ")", x.stow(k, lane, f), m.stow(k, lane, f));
                if (random.nextBoolean()) {
                    due("edit", x.fell(m.all().size() - 1), m.fell(m.all().size() - 1));
                    int length = n + 2 * random.nextInt(2);
                    String call = "read(" + k + ", " + lane + ", " + f + ", " + length + ")";
                    due(call, x.read(k, lane, f, length), m.read(k, lane, f, length));
                }
            }
        }
        due("look(" + k + ", " + i + ")", x.look(k, i), m.look(k, i));
        due("torn()", x.torn(), m.torn);
        due("count(" + what + ")", x.count(what), m.count(what));
    }

    /** The tree once more, as far as the 512 calls of an object go. */
    private void treeAtTheEnd() {
        String r = m.row();
        due("size(3)", x.size(3), r.length());
        while (calls < CALLS - 4) {
            int p = random.nextInt(r.length() + 1);
            int v = random.nextInt(r.length() / 2 + 1);
            int what = random.nextInt(14);
            int b = random.nextInt(8);
            due("match(" + p + ")", x.match(p), m.match(p));
            due("weight(" + v + ")", x.weight(v), m.weight(v));
            due("node(" + v + ", " + what + ")", x.node(v, what), m.node(v, what));
            due("block(" + b + ", " + what % 3 + ")", x.block(b, what % 3), m.block(b, what % 3));
        }
    }

    private boolean run() {
        int most = 100 + random.nextInt(CALLS - 100);
        if (random.nextBoolean()) {
            int seed = random.nextInt();
            int n = 1 + random.nextInt(64);
            due("grow(" + seed + ", " + n + ")", x.grow(seed, n), m.grow(seed, n));
        }
        while (calls < most - 20 && same) {
            switch (random.nextInt(20)) {
                case 0 -> texts();
                case 1, 2 -> rows();
                case 3, 4 -> nodes();
                case 5 -> weights();
                case 6 -> imagesAndSeeds();
                case 7, 8 -> sheets();
                default -> edits();
            }
        }
        treeAtTheEnd();
        return same;
    }

    public static void main(String[] args) {
        long from = args.length > 0 ? Long.parseLong(args[0]) : 1;
        int objects = args.length > 1 ? Integer.parseInt(args[1]) : OBJECTS;
        long calls = 0;
        for (long seed = from; seed < from + objects; seed++) {
            ModelTest run = new ModelTest(seed);
            boolean same = run.run();
            calls += run.calls;
            if (!same) {
                System.out.println("the run by seed " + seed + " is not as due");
                System.exit(1);
            }
        }
        System.out.println(calls + " answers are as due");
    }
}
