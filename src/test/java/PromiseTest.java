import java.util.function.IntUnaryOperator;

/** For each promise of the document: ordinary inputs, the edges that it names, wrong inputs. */
public final class PromiseTest {
    private static final int BAD = -1, STATE = -2, FULL = -3, NONE = -4, OVER = -5;
    private static final int MOST = Integer.MAX_VALUE, FEWEST = Integer.MIN_VALUE;
    /** The tree of most tests: row ((()())()(((()))())) , greatest depth 4. */
    private static final String TEXT = "(5(3(2)(9))(4)((7(1(6)))(8)))";
    private static final String ROW = "((()())()(((()))()))";
    private static int wrong = 0;

    private static void due(int promise, String call, long got, long want) {
        if (got != want) {
            wrong++;
            System.out.println("promise " + promise + ": " + call + " answered " + got + ", due is " + want);
        }
    }

    /** Answers of a call for 0 on, one behind another. */
    private static void row(int promise, String call, IntUnaryOperator of, int... want) {
        for (int i = 0; i < want.length; i++) {
            due(promise, call + " at " + i, of.applyAsInt(i), want[i]);
        }
    }

    private static void feedAll(ExcessTree x, String text) {
        for (int i = 0; i < text.length(); i++) {
            x.feed(text.charAt(i));
        }
    }

    private static int tell(ExcessTree x, String text) {
        feedAll(x, text);
        return x.text();
    }

    private static ExcessTree told(String text) {
        ExcessTree x = new ExcessTree();
        int answer = tell(x, text);
        if (answer < 0) {
            due(4, "text of " + text, answer, 0);
        }
        return x;
    }

    /** The tree with its weights, as a text. */
    private static String textOf(ExcessTree x) {
        StringBuilder s = new StringBuilder();
        int v = 0;
        int places = x.size(3);
        for (int p = 0; p < places; p++) {
            if (x.bit(p) == 1) {
                s.append('(').append(x.weight(v));
                v++;
            } else {
                s.append(')');
            }
        }
        return s.toString();
    }

    private static void is(int promise, String after, ExcessTree x, String want) {
        String got = textOf(x);
        if (!got.equals(want)) {
            wrong++;
            System.out.println("promise " + promise + ": after " + after + " it is " + got + ", due is " + want);
        }
        summariesAreTrue(promise, after, x, got);
    }

    /** The row is told by its text, as an object has but 512 calls. */
    private static void summariesAreTrue(int promise, String after, ExcessTree x, String text) {
        String row = text.replaceAll("[0-9]", "");
        int blocks = (row.length() + 15) / 16;
        due(promise, "size(4) after " + after, x.size(4), blocks);
        for (int b = 0; b < blocks; b++) {
            int e = 0;
            int low = 99;
            int high = -99;
            for (int p = 16 * b; p < 16 * b + 16 && p < row.length(); p++) {
                e += row.charAt(p) == '(' ? 1 : -1;
                low = Math.min(low, e);
                high = Math.max(high, e);
            }
            due(promise, "block(" + b + ", 0) after " + after, x.block(b, 0), 100 + e);
            due(promise, "block(" + b + ", 1) after " + after, x.block(b, 1), 100 + low);
            due(promise, "block(" + b + ", 2) after " + after, x.block(b, 2), 100 + high);
        }
    }

    private static String chain(int n) {
        return "(".repeat(n) + ")".repeat(n);
    }

    private static String star(int leaves) {
        return "(" + "()".repeat(leaves) + ")";
    }

    private static void newObject() {
        ExcessTree x = new ExcessTree();
        row(1, "size", x::size, 0, 0, NONE, 0, 0);
        row(1, "count", x::count, 0, 0, NONE, 0);
        due(1, "fault()", x.fault(), 0);
        due(1, "torn()", x.torn(), 0);
        for (int k = 0; k < 4; k++) {
            due(1, "lay on SHEET " + k, x.lay(k, 0, 1), -11);
        }
        due(1, "weight(0)", x.weight(0), BAD);
        due(1, "least(0, 0, 2)", x.least(0, 0, 2), 1);
        due(1, "least(0, 0, 1)", x.least(0, 0, 1), 0);
        due(1, "rank(0, 2)", x.rank(0, 2), 0);
        due(1, "back(0)", x.back(0), STATE);
        due(1, "back(1)", x.back(1), STATE);
        due(1, "BAD", ExcessTree.BAD, BAD);
        due(1, "STATE", ExcessTree.STATE, STATE);
        due(1, "FULL", ExcessTree.FULL, FULL);
        due(1, "NONE", ExcessTree.NONE, NONE);
        due(1, "OVER", ExcessTree.OVER, OVER);
    }

    private static void tape() {
        ExcessTree x = new ExcessTree();
        due(2, "feed(0)", x.feed(0), 1);
        due(2, "feed(127)", x.feed(127), 2);
        due(2, "feed(128)", x.feed(128), BAD);
        due(2, "feed(-1)", x.feed(-1), BAD);
        due(2, "feed(296)", x.feed(296), BAD);
        for (int n = 3; n <= 160; n++) {
            due(2, "feed(32)", x.feed(32), n);
        }
        due(2, "feed(32) over 160", x.feed(32), FULL);
        due(2, "feed(128) over 160", x.feed(128), BAD);
        due(2, "count(1)", x.count(1), 160);

        due(3, "end(161)", x.end(161), BAD);
        due(3, "end(-1)", x.end(-1), BAD);
        due(3, "end(160)", x.end(160), 160);
        due(3, "end(5)", x.end(5), 160);
        due(3, "end(6)", x.end(6), BAD);
        due(3, "end(0)", x.end(0), 5);
        due(3, "end(0)", x.end(0), 0);
        feedAll(x, "(1))");
        due(3, "end(3)", x.end(3), 4);
        due(3, "text() then", x.text(), 1);
        is(3, "end", x, "(1)");
    }

    private static void texts() {
        ExcessTree x = new ExcessTree();
        due(4, "text", tell(x, TEXT), 10);
        is(4, TEXT, x, "(5(3(2)(9))(4)(0(7(1(6)))(8)))");
        due(4, "TAPE is empty", x.count(1), 0);
        due(4, "with blanks", tell(x, "  ( 12  (0034 ) ( )( 9999)) "), 4);
        is(4, "blanks", x, "(12(34)(0)(9999))");
        x.keep(0);
        x.keep(1);
        due(4, "a text with a fault", tell(x, "(1"), -12);
        due(4, "TAPE is empty", x.count(1), 0);
        is(4, "a fault", x, "(12(34)(0)(9999))");
        due(4, "IMAGES stay", x.count(0), 2);
        due(4, "blanks alone", tell(x, "   "), 0);
        due(4, "size(0)", x.size(0), 0);
        due(4, "IMAGES are gone", x.count(0), 0);
        due(4, "IMAGES are gone", x.back(1), STATE);
        due(4, "64 in a chain", tell(x, chain(64)), 64);
        due(4, "nothing", x.text(), 0);
        due(4, "size(0)", x.size(0), 0);
        due(4, "64 in a star", tell(new ExcessTree(), star(63)), 64);
    }

    private static void faults(String text, int place, int fault) {
        ExcessTree x = told("(7)");
        due(4, "text of " + text, tell(x, text), -10 - place);
        due(5, "fault of " + text, x.fault(), fault);
        due(5, "fault again", x.fault(), fault);
        is(4, text, x, "(7)");
        due(4, "text()", x.text(), 0);
        due(5, "fault of nothing", x.fault(), 0);
    }

    private static void faultsOfTexts() {
        faults("x", 0, 1);
        faults("(\t)", 1, 1);
        faults("(-1)", 1, 1);
        faults("( 12345)", 2, 1);
        faults("( 00000)", 2, 1);
        faults("12345", 0, 1);
        faults("(1 23456)", 3, 1);
        faults("() 12345", 3, 1);
        faults("()x", 2, 1);
        faults("((a", 2, 1);
        faults("5", 0, 2);
        faults(" )", 1, 2);
        faults("(", 1, 2);
        faults("((1)  ", 6, 2);
        faults("(1 2)", 3, 2);
        faults("(()5)", 3, 2);
        faults("()()", 2, 2);
        faults("())", 2, 2);
        faults("() 5", 3, 2);
        faults("(1x", 2, 1);
        faults("(" + "()".repeat(64) + ")", 127, 5);
        faults("(".repeat(65), 64, 5);
        faults("(".repeat(64) + "x", 64, 1);
        faults(chain(64) + "(", 128, 2);
        faults(chain(64) + "x(", 128, 1);
        faults(" ".repeat(159) + "(", 160, 2);
        faults("(9999999999999999999999)", 1, 1);
        ExcessTree x = told("(7)");
        tell(x, "x");
        x.feed(128);
        x.plant(1);
        due(5, "fault() of the latest text()", x.fault(), 1);
        feedAll(x, "(12345");
        x.end(5);
        due(4, "a figure behind the end", x.text(), -15);
        due(5, "its fault", x.fault(), 2);
        due(4, "160 bytes, the last a figure", tell(x, " ".repeat(157) + "(99"), -170);
        due(5, "its fault", x.fault(), 2);
        due(4, "160 bytes", tell(x, " ".repeat(155) + "(99 )"), 1);
        is(4, "160 bytes", x, "(99)");
    }

    private static void sizesAndBits() {
        ExcessTree x = told(TEXT);
        row(6, "size", x::size, 10, 5, 4, 20, 2, BAD);
        due(6, "size(-1)", x.size(-1), BAD);
        row(6, "size of one", told("()")::size, 1, 1, 0, 2, 1);
        row(6, "size of a chain", told(chain(64))::size, 64, 1, 63, 128, 8);
        row(6, "size of a star", told(star(63))::size, 64, 63, 1, 128, 8);
        row(6, "size of 8", told(star(7))::size, 8, 7, 1, 16, 1);
        row(6, "size of 9", told(star(8))::size, 9, 8, 1, 18, 2);

        for (int p = 0; p < ROW.length(); p++) {
            due(7, "bit(" + p + ")", x.bit(p), ROW.charAt(p) == '(' ? 1 : 0);
        }
        due(7, "bit(20)", x.bit(20), BAD);
        due(7, "bit(-1)", x.bit(-1), BAD);
        row(7, "bit of a chain", p -> told(chain(64)).bit(p + 62), 1, 1, 0, 0);
        due(7, "bit(128)", told(chain(64)).bit(128), BAD);

        row(8, "excess", x::excess, 0, 1, 2, 3, 2, 3, 2, 1, 2, 1, 2, 3, 4, 5, 4, 3, 2, 3, 2, 1, 0, BAD);
        due(8, "excess(-1)", x.excess(-1), BAD);
        due(8, "excess(64) of a chain", told(chain(64)).excess(64), 64);
        due(8, "excess(128) of a chain", told(chain(64)).excess(128), 0);
    }

    private static void ranksAndSelects() {
        ExcessTree x = told("(()())");
        row(9, "rank ( ", p -> x.rank(p, 0), 0, 1, 2, 2, 3, 3, 3, BAD);
        row(9, "rank ) ", p -> x.rank(p, 1), 0, 0, 0, 1, 1, 2, 3, BAD);
        row(9, "rank ()", p -> x.rank(p, 2), 0, 0, 0, 1, 1, 2, 2, BAD);
        due(9, "rank(-1, 0)", x.rank(-1, 0), BAD);
        due(9, "rank(0, 3)", x.rank(0, 3), BAD);
        due(9, "rank(0, -1)", x.rank(0, -1), BAD);
        ExcessTree star = told(star(63));
        due(9, "rank(64, 2) of a star", star.rank(64, 2), 31);
        due(9, "rank(65, 2) of a star", star.rank(65, 2), 32);
        due(9, "rank(128, 2) of a star", star.rank(128, 2), 63);
        ExcessTree chain = told(chain(64));
        due(9, "rank(64, 2) of a chain", chain.rank(64, 2), 0);
        due(9, "rank(65, 2) of a chain", chain.rank(65, 2), 1);
        due(9, "rank(128, 1) of a chain", chain.rank(128, 1), 64);

        row(10, "select ( ", k -> x.select(k, 0), 0, 1, 3, NONE);
        row(10, "select ) ", k -> x.select(k, 1), 2, 4, 5, NONE);
        row(10, "select ()", k -> x.select(k, 2), 1, 3, NONE);
        due(10, "select(-1, 0)", x.select(-1, 0), BAD);
        due(10, "select(0, 3)", x.select(0, 3), BAD);
        due(10, "select(0, -1)", x.select(0, -1), BAD);
        due(10, "select(MOST, 1)", x.select(MOST, 1), NONE);
        due(10, "select(62, 2) of a star", star.select(62, 2), 125);
        due(10, "select(31, 2) of a star", star.select(31, 2), 63);
        due(10, "select(0, 2) of a chain", chain.select(0, 2), 63);
        due(10, "select(63, 1) of a chain", chain.select(63, 1), 127);
        due(10, "select(64, 1) of a chain", chain.select(64, 1), NONE);
    }

    private static void searches() {
        ExcessTree x = told(TEXT);
        due(11, "forward(0, 0)", x.forward(0, 0), 20);
        due(11, "forward(1, 1)", x.forward(1, 1), 7);
        due(11, "forward(0, 5)", x.forward(0, 5), 13);
        due(11, "forward(0, 6)", x.forward(0, 6), NONE);
        due(11, "forward(13, 5)", x.forward(13, 5), NONE);
        due(11, "forward(20, 0)", x.forward(20, 0), NONE);
        due(11, "forward(0, -1)", x.forward(0, -1), NONE);
        due(11, "forward(0, FEWEST)", x.forward(0, FEWEST), NONE);
        due(11, "forward(3, MOST)", x.forward(3, MOST), NONE);
        due(11, "forward(21, 0)", x.forward(21, 0), BAD);
        due(11, "forward(-1, 0)", x.forward(-1, 0), BAD);
        ExcessTree chain = told(chain(64));
        due(11, "forward(0, 16) of a chain", chain.forward(0, 16), 16);
        due(11, "forward(16, 16) of a chain", chain.forward(16, 16), 112);
        due(11, "forward(0, 64) of a chain", chain.forward(0, 64), 64);
        due(11, "forward(64, 0) of a chain", chain.forward(64, 0), 128);

        due(12, "backward(20, 0)", x.backward(20, 0), 0);
        due(12, "backward(20, 1)", x.backward(20, 1), 19);
        due(12, "backward(19, 1)", x.backward(19, 1), 9);
        due(12, "backward(20, 5)", x.backward(20, 5), 13);
        due(12, "backward(13, 5)", x.backward(13, 5), NONE);
        due(12, "backward(20, 6)", x.backward(20, 6), NONE);
        due(12, "backward(0, 0)", x.backward(0, 0), NONE);
        due(12, "backward(1, 0)", x.backward(1, 0), 0);
        due(12, "backward(20, FEWEST)", x.backward(20, FEWEST), NONE);
        due(12, "backward(20, MOST)", x.backward(20, MOST), NONE);
        due(12, "backward(21, 0)", x.backward(21, 0), BAD);
        due(12, "backward(-1, 0)", x.backward(-1, 0), BAD);
        due(12, "backward(128, 0) of a chain", chain.backward(128, 0), 0);
        due(12, "backward(112, 16) of a chain", chain.backward(112, 16), 16);
        due(12, "backward(128, 16) of a chain", chain.backward(128, 16), 112);
        due(12, "backward(128, 64) of a chain", chain.backward(128, 64), 64);

        row(13, "match", x::match, 19, 6, 3, 2, 5, 4, 1, 8, 7, 18, 15, 14, 13, 12, 11, 10, 17, 16, 9, 0, BAD);
        due(13, "match(-1)", x.match(-1), BAD);
        for (int p = 0; p < 128; p++) {
            due(13, "match(" + p + ") of a chain", chain.match(p), 127 - p);
        }
    }

    private static void leastsAndBlocks() {
        ExcessTree x = told(TEXT);
        row(14, "least(3, 17, ..)", what -> x.least(3, 17, what), 1, 7, 2, 5, BAD);
        row(14, "least(0, 20, ..)", what -> x.least(0, 20, what), 0, 0, 2, 5, BAD);
        row(14, "least(1, 19, ..)", what -> x.least(1, 19, what), 1, 1, 4, 5, BAD);
        row(14, "least(13, 13, ..)", what -> x.least(13, 13, what), 5, 13, 1, 5, BAD);
        row(14, "least(20, 20, ..)", what -> x.least(20, 20, what), 0, 20, 1, 0, BAD);
        due(14, "least(0, 0, -1)", x.least(0, 0, -1), BAD);
        due(14, "least(-1, 0, 0)", x.least(-1, 0, 0), BAD);
        due(14, "least(0, 21, 0)", x.least(0, 21, 0), BAD);
        due(14, "least(5, 4, 0)", x.least(5, 4, 0), BAD);
        ExcessTree chain = told(chain(64));
        row(14, "least(16, 112, ..) of a chain", what -> chain.least(16, 112, what), 16, 16, 2, 64);
        row(14, "least(65, 100, ..) of a chain", what -> chain.least(65, 100, what), 28, 100, 1, 63);

        row(15, "block(0, ..)", what -> x.block(0, what), 102, 101, 105, BAD);
        row(15, "block(1, ..)", what -> x.block(1, what), 98, 98, 101, BAD);
        due(15, "block(2, 0)", x.block(2, 0), BAD);
        due(15, "block(-1, 0)", x.block(-1, 0), BAD);
        due(15, "block(0, -1)", x.block(0, -1), BAD);
        row(15, "block(0, ..) of a chain", what -> chain.block(0, what), 116, 101, 116);
        row(15, "block(7, ..) of a chain", what -> chain.block(7, what), 84, 84, 99);
        due(15, "block(8, 0)", chain.block(8, 0), BAD);
    }

    private static void nodes() {
        ExcessTree x = told(TEXT);
        row(16, "node(0, ..)", what -> x.node(0, what), 0, 19, 0, NONE, 1, 5, NONE, NONE, 3, 10, 5, 4, 9, 0, BAD);
        row(16, "node(1, ..)", what -> x.node(1, what), 1, 6, 1, 0, 2, 3, 4, NONE, 2, 3, 2, 1, 2, 0, BAD);
        row(16, "node(3, ..)", what -> x.node(3, what), 4, 5, 2, 1, NONE, NONE, NONE, 2, 0, 1, 1, 0, 1, 1, BAD);
        row(16, "node(5, ..)", what -> x.node(5, what), 9, 18, 1, 0, 6, 9, NONE, 4, 2, 5, 2, 3, 8, 2, BAD);
        row(16, "node(6, ..)", what -> x.node(6, what), 10, 15, 2, 5, 7, 7, 9, NONE, 1, 3, 1, 2, 6, 0, BAD);
        due(16, "node(10, 0)", x.node(10, 0), BAD);
        due(16, "node(-1, 0)", x.node(-1, 0), BAD);
        due(16, "node(0, -1)", x.node(0, -1), BAD);
        ExcessTree star = told(star(63));
        row(16, "node(63, ..) of a star", what -> star.node(63, what),
                125, 126, 1, 0, NONE, NONE, NONE, 62, 0, 1, 1, 0, 62, 62);
        due(16, "node(0, 8) of a star", star.node(0, 8), 63);

        row(17, "child(0, ..)", i -> x.child(0, i), 1, 4, 5, NONE);
        row(17, "child(5, ..)", i -> x.child(5, i), 6, 9, NONE);
        row(17, "child(2, ..)", i -> x.child(2, i), NONE);
        due(17, "child(0, MOST)", x.child(0, MOST), NONE);
        due(17, "child(0, -1)", x.child(0, -1), BAD);
        due(17, "child(10, 0)", x.child(10, 0), BAD);
        due(17, "child(-1, 0)", x.child(-1, 0), BAD);
        due(17, "child(0, 62) of a star", star.child(0, 62), 63);

        row(18, "below", x::below, 2, 3, 1, 4, 8, 7, 6, 9, 5, 0, BAD);
        due(18, "below(-1)", x.below(-1), BAD);
        due(18, "below(0) of none", new ExcessTree().below(0), BAD);

        row(19, "up(8, ..)", k -> x.up(8, k), 8, 7, 6, 5, 0, NONE);
        row(19, "up(0, ..)", k -> x.up(0, k), 0, NONE);
        due(19, "up(8, MOST)", x.up(8, MOST), NONE);
        due(19, "up(8, -1)", x.up(8, -1), BAD);
        due(19, "up(10, 0)", x.up(10, 0), BAD);
        due(19, "up(-1, 0)", x.up(-1, 0), BAD);
        due(19, "up(63, 63) of a chain", told(chain(64)).up(63, 63), 0);
    }

    private static void nodesFarAway() {
        ExcessTree x = told(TEXT);
        row(20, "meet(2, ..)", v -> x.meet(2, v), 0, 1, 2, 1, 0, 0, 0, 0, 0, 0, BAD);
        row(20, "meet(.., 8)", u -> x.meet(u, 8), 0, 0, 0, 0, 0, 5, 6, 7, 8, 5, BAD);
        row(20, "meet(9, ..)", v -> x.meet(9, v), 0, 0, 0, 0, 0, 5, 5, 5, 5, 9, BAD);
        due(20, "meet(-1, 0)", x.meet(-1, 0), BAD);
        due(20, "meet(0, -1)", x.meet(0, -1), BAD);
        due(20, "meet(10, 10)", x.meet(10, 10), BAD);

        row(21, "way(2, ..)", v -> x.way(2, v), 2, 1, 0, 2, 3, 3, 4, 5, 6, 4, BAD);
        row(21, "way(.., 8)", u -> x.way(u, 8), 4, 5, 6, 6, 5, 3, 2, 1, 0, 4, BAD);
        due(21, "way(-1, 0)", x.way(-1, 0), BAD);
        due(21, "way(0, -1)", x.way(0, -1), BAD);

        row(22, "level(.., 0)", d -> x.level(d, 0), 0, 1, 2, 7, 8, NONE);
        row(22, "level(.., 1)", d -> x.level(d, 1), 0, 5, 9, 7, 8, NONE);
        row(22, "level(.., 2)", d -> x.level(d, 2), 1, 3, 4, 1, 1, 0);
        due(22, "level(MOST, 0)", x.level(MOST, 0), NONE);
        due(22, "level(MOST, 1)", x.level(MOST, 1), NONE);
        due(22, "level(MOST, 2)", x.level(MOST, 2), 0);
        due(22, "level(-1, 0)", x.level(-1, 0), BAD);
        due(22, "level(-1, 2)", x.level(-1, 2), BAD);
        due(22, "level(0, 3)", x.level(0, 3), BAD);
        due(22, "level(0, -1)", x.level(0, -1), BAD);
        row(22, "level of none", what -> new ExcessTree().level(0, what), NONE, NONE, 0);

        row(23, "beside(.., 0)", v -> x.beside(v, 0), NONE, 4, 3, 6, 5, NONE, 9, NONE, NONE, NONE, BAD);
        row(23, "beside(.., 1)", v -> x.beside(v, 1), NONE, NONE, NONE, 2, 1, 4, 3, NONE, NONE, 6, BAD);
        due(23, "beside(-1, 0)", x.beside(-1, 0), BAD);
        due(23, "beside(0, 2)", x.beside(0, 2), BAD);
        due(23, "beside(0, -1)", x.beside(0, -1), BAD);

        row(24, "deepest", x::deepest, 8, 2, 2, 3, 4, 8, 8, 8, 8, 9, BAD);
        due(24, "deepest(-1)", x.deepest(-1), BAD);

        row(25, "alike(2, ..)", v -> x.alike(2, v), 0, 0, 1, 1, 1, 0, 0, 0, 1, 1, BAD);
        ExcessTree y = told("(1(2(3)(4)(5))(6(7)(8)(9))(((10)))(((11))(12)))");
        due(25, "alike(1, 5)", y.alike(1, 5), 1);
        due(25, "alike(1, 1)", y.alike(1, 1), 1);
        due(25, "alike(9, 13)", y.alike(9, 13), 0);
        due(25, "alike(10, 13)", y.alike(10, 13), 1);
        due(25, "alike(1, 12), as long", y.alike(1, 12), 0);
        due(25, "alike(0, -1)", y.alike(0, -1), BAD);
        due(25, "alike(99, 0)", y.alike(99, 0), BAD);
    }

    private static void weights() {
        ExcessTree x = told(TEXT);
        row(26, "weight", x::weight, 5, 3, 2, 9, 4, 0, 7, 1, 6, 8, BAD);
        due(26, "weight(-1)", x.weight(-1), BAD);

        row(28, "sum(.., 0)", v -> x.sum(v, 0), 45, 14, 2, 9, 4, 22, 14, 7, 6, 8, BAD);
        row(28, "sum(.., 1)", v -> x.sum(v, 1), 5, 8, 10, 17, 9, 5, 12, 13, 19, 13, BAD);
        due(28, "sum(-1, 0)", x.sum(-1, 0), BAD);
        due(28, "sum(0, 2)", x.sum(0, 2), BAD);
        due(28, "sum(0, -1)", x.sum(0, -1), BAD);

        row(29, "heaviest", x::heaviest, 3, 3, 2, 3, 4, 9, 6, 8, 8, 9, BAD);
        due(29, "heaviest(-1)", x.heaviest(-1), BAD);
        due(29, "heaviest of equal ones", told("(1(2)(2))").heaviest(0), 1);
        due(29, "heaviest of equal ones", told("(2(1)(2))").heaviest(0), 0);

        due(27, "set(3, MOST)", x.set(3, MOST), 9);
        due(27, "set(3, -1)", x.set(3, -1), BAD);
        due(27, "set(3, 0)", x.set(3, 0), MOST);
        due(27, "set(10, 0)", x.set(10, 0), BAD);
        due(27, "set(-1, 0)", x.set(-1, 0), BAD);
        is(27, "set", x, "(5(3(2)(0))(4)(0(7(1(6)))(8)))");

        x.set(0, MOST - 36);
        due(28, "sum(0, 0) just within", x.sum(0, 0), MOST - 5);
        x.set(0, MOST - 31);
        due(28, "sum(0, 0) just within", x.sum(0, 0), MOST);
        x.set(0, MOST - 30);
        due(28, "sum(0, 0) just above", x.sum(0, 0), OVER);
        due(28, "sum(1, 0)", x.sum(1, 0), 5);
        due(28, "sum(8, 1)", x.sum(8, 1), MOST - 16);
        for (int v = 0; v < 10; v++) {
            x.set(v, MOST);
        }
        due(28, "sum of many", x.sum(0, 0), OVER);
        due(28, "sum of two", x.sum(1, 1), OVER);
        due(28, "sum of one", x.sum(0, 1), MOST);
        ExcessTree chain = numbered(chain(64));
        due(28, "sum(63, 1) of a chain", chain.sum(63, 1), 66016);
        due(28, "sum(0, 0) of a chain", chain.sum(0, 0), 66016);
        due(28, "sum(62, 1) of a chain", chain.sum(62, 1), 64953);
        due(29, "heaviest(0) of a chain", chain.heaviest(0), 63);
    }

    private static void leavesComeAndGo() {
        ExcessTree x = new ExcessTree();
        due(30, "plant(-1)", x.plant(-1), BAD);
        due(30, "plant(MOST)", x.plant(MOST), 0);
        due(30, "plant(-1) again", x.plant(-1), BAD);
        due(30, "plant(0) again", x.plant(0), STATE);
        is(30, "plant", x, "(2147483647)");

        x.set(0, 1);
        due(31, "leaf(0, 0, 2)", x.leaf(0, 0, 2), 1);
        due(31, "leaf(0, 0, 3)", x.leaf(0, 0, 3), 1);
        due(31, "leaf(0, 2, 4)", x.leaf(0, 2, 4), 3);
        due(31, "leaf(1, 0, 5)", x.leaf(1, 0, 5), 2);
        due(31, "leaf(0, 1, 6)", x.leaf(0, 1, 6), 3);
        is(31, "leaf", x, "(1(3(5))(6)(2)(4))");
        due(31, "leaf(0, 5, 0)", x.leaf(0, 5, 0), BAD);
        due(31, "leaf(0, -1, 0)", x.leaf(0, -1, 0), BAD);
        due(31, "leaf(0, 0, -1)", x.leaf(0, 0, -1), BAD);
        due(31, "leaf(6, 0, 0)", x.leaf(6, 0, 0), BAD);
        due(31, "leaf(-1, 0, 0)", x.leaf(-1, 0, 0), BAD);
        is(31, "leaf refused", x, "(1(3(5))(6)(2)(4))");
        ExcessTree full = told(star(63));
        due(31, "a 65th", full.leaf(0, 63, 0), FULL);
        due(31, "a 65th, BAD", full.leaf(0, 64, 0), BAD);
        due(31, "a 65th, BAD", full.leaf(0, 0, -1), BAD);

        due(32, "prune(1)", x.prune(1), STATE);
        due(32, "prune(0)", x.prune(0), STATE);
        due(32, "prune(2)", x.prune(2), 5);
        due(32, "prune(4)", x.prune(4), 4);
        due(32, "prune(4)", x.prune(4), BAD);
        due(32, "prune(-1)", x.prune(-1), BAD);
        is(32, "prune", x, "(1(3)(6)(2))");
        ExcessTree one = told("(9)");
        due(32, "prune(0) of one", one.prune(0), 0);
        due(32, "size(0)", one.size(0), 0);
        due(32, "plant behind it", one.plant(4), 0);
        is(32, "plant", one, "(4)");
    }

    private static void subtreesGo() {
        ExcessTree x = told(TEXT);
        due(33, "fell(6)", x.fell(6), 3);
        is(33, "fell(6)", x, "(5(3(2)(9))(4)(0(8)))");
        due(33, "fell(1)", x.fell(1), 3);
        is(33, "fell(1)", x, "(5(4)(0(8)))");
        due(33, "fell(4)", x.fell(4), BAD);
        due(33, "fell(-1)", x.fell(-1), BAD);
        due(33, "fell(0)", x.fell(0), 4);
        is(33, "fell(0)", x, "");
        due(33, "fell(0) of none", x.fell(0), BAD);
        ExcessTree chain = told(chain(64));
        due(33, "fell(1) of a chain", chain.fell(1), 63);
        is(33, "fell(1) of a chain", chain, "(0)");
        ExcessTree half = told("(" + chain(32) + "()".repeat(31) + ")");
        due(33, "fell of 32 of 64", half.fell(1), 32);
        due(33, "count(3) then", half.count(3), 31);
        row(33, "size then", half::size, 32, 31, 1, 64, 4);
        due(33, "select(32, 0) then", half.select(32, 0), NONE);
        is(33, "fell of 32 of 64", half, "(0" + "(0)".repeat(31) + ")");
    }

    private static void wrapsAndMelts() {
        ExcessTree x = told("(1(2(3))(4)(5))");
        due(34, "wrap(0, 0, 2, 9)", x.wrap(0, 0, 2, 9), 1);
        is(34, "wrap(0, 0, 2, 9)", x, "(1(9(2(3))(4))(5))");
        due(34, "wrap(0, 2, 0, 8)", x.wrap(0, 2, 0, 8), 6);
        is(34, "wrap(0, 2, 0, 8)", x, "(1(9(2(3))(4))(5)(8))");
        due(34, "wrap(3, 0, 0, 7)", x.wrap(3, 0, 0, 7), 4);
        is(34, "wrap(3, 0, 0, 7)", x, "(1(9(2(3(7)))(4))(5)(8))");
        due(34, "wrap(0, 1, 2, 6)", x.wrap(0, 1, 2, 6), 6);
        is(34, "wrap(0, 1, 2, 6)", x, "(1(9(2(3(7)))(4))(6(5)(8)))");
        due(34, "wrap(0, 0, 3, 0)", x.wrap(0, 0, 3, 0), BAD);
        due(34, "wrap(0, 1, 2, 0)", x.wrap(0, 1, 2, 0), BAD);
        due(34, "wrap(0, 3, 0, 0)", x.wrap(0, 3, 0, 0), BAD);
        due(34, "wrap(0, -1, 1, 0)", x.wrap(0, -1, 1, 0), BAD);
        due(34, "wrap(0, 1, -1, 0)", x.wrap(0, 1, -1, 0), BAD);
        due(34, "wrap(0, 1, MOST, 0)", x.wrap(0, 1, MOST, 0), BAD);
        due(34, "wrap(0, MOST, MOST, 0)", x.wrap(0, MOST, MOST, 0), BAD);
        due(34, "wrap(0, 0, 1, -1)", x.wrap(0, 0, 1, -1), BAD);
        due(34, "wrap(9, 0, 0, 0)", x.wrap(9, 0, 0, 0), BAD);
        due(34, "wrap(-1, 0, 0, 0)", x.wrap(-1, 0, 0, 0), BAD);
        is(34, "wrap refused", x, "(1(9(2(3(7)))(4))(6(5)(8)))");
        ExcessTree full = told(star(63));
        due(34, "a 65th", full.wrap(0, 0, 63, 0), FULL);
        due(34, "a 65th, BAD", full.wrap(0, 0, 64, 0), BAD);

        due(35, "melt(0)", x.melt(0), STATE);
        due(35, "melt(1)", x.melt(1), 8);
        is(35, "melt(1)", x, "(1(2(3(7)))(4)(6(5)(8)))");
        due(35, "melt(3)", x.melt(3), 7);
        is(35, "melt(3)", x, "(1(2(3))(4)(6(5)(8)))");
        due(35, "melt(7)", x.melt(7), BAD);
        due(35, "melt(-1)", x.melt(-1), BAD);
        ExcessTree chain = told("(1(2(3)(4)))");
        due(35, "melt(0) with one child", chain.melt(0), 3);
        is(35, "melt(0)", chain, "(2(3)(4))");
        due(35, "melt(0) with two", chain.melt(0), STATE);
        ExcessTree one = told("(3)");
        due(35, "melt(0) without any", one.melt(0), STATE);
        is(35, "melt(0) refused", one, "(3)");
    }

    private static void grafts() {
        ExcessTree x = told("(1(2(3)(4))(5)(6(7)))");
        due(36, "graft(1, 5, 0)", x.graft(1, 5, 0), 3);
        is(36, "graft(1, 5, 0)", x, "(1(5)(6(2(3)(4))(7)))");
        due(36, "graft(3, 0, 0)", x.graft(3, 0, 0), 1);
        is(36, "graft(3, 0, 0)", x, "(1(2(3)(4))(5)(6(7)))");
        due(36, "graft(1, 0, 2) with its own parent", x.graft(1, 0, 2), 4);
        is(36, "graft(1, 0, 2)", x, "(1(5)(6(7))(2(3)(4)))");
        due(36, "graft(4, 0, 2) to where it is", x.graft(4, 0, 2), 4);
        is(36, "graft(4, 0, 2)", x, "(1(5)(6(7))(2(3)(4)))");
        due(36, "graft(4, 0, 3)", x.graft(4, 0, 3), BAD);
        due(36, "graft(4, 0, -1)", x.graft(4, 0, -1), BAD);
        due(36, "graft(3, 0, 3)", x.graft(3, 0, 3), 6);
        is(36, "graft(3, 0, 3)", x, "(1(5)(6)(2(3)(4))(7))");
        due(36, "graft(6, 0, 9)", x.graft(6, 0, 9), BAD);
        due(36, "graft(0, 1, 0)", x.graft(0, 1, 0), STATE);
        due(36, "graft(0, 0, 9)", x.graft(0, 0, 9), STATE);
        due(36, "graft(3, 3, 0)", x.graft(3, 3, 0), STATE);
        due(36, "graft(3, 5, -1)", x.graft(3, 5, -1), STATE);
        due(36, "graft(7, 0, 0)", x.graft(7, 0, 0), BAD);
        due(36, "graft(0, 7, 0)", x.graft(0, 7, 0), BAD);
        due(36, "graft(-1, 0, 0)", x.graft(-1, 0, 0), BAD);
        due(36, "graft(1, -1, 0)", x.graft(1, -1, 0), BAD);
        due(36, "graft(1, 3, 3): one too many", x.graft(1, 3, 3), BAD);
        is(36, "graft refused", x, "(1(5)(6)(2(3)(4))(7))");
        due(36, "graft(3, 6, 0) to the one right behind it", x.graft(3, 6, 0), 4);
        is(36, "graft(3, 6, 0)", x, "(1(5)(6)(7(2(3)(4))))");
        due(36, "graft(4, 2, 0) to the one ahead", x.graft(4, 2, 0), 3);
        is(36, "graft(4, 2, 0)", x, "(1(5)(6(2(3)(4)))(7))");
        ExcessTree long1 = told("(" + chain(40) + "()(" + "()".repeat(21) + "))");
        due(36, "graft of 40 NODES", long1.graft(1, 42, 21), 24);
        due(36, "size(2)", long1.size(2), 41);
        due(36, "size(0)", long1.size(0), 64);
        due(36, "back again", long1.graft(24, 0, 0), 1);
        due(36, "node(41, 3)", long1.node(41, 3), 0);
    }

    /** A tree of that shape whose weights are 1000 and the number: each is four figures long. */
    private static ExcessTree numbered(String shape) {
        ExcessTree x = told(shape);
        int nodes = x.size(0);
        for (int v = 0; v < nodes; v++) {
            x.set(v, 1000 + v);
        }
        return x;
    }

    /** Edits at nodes of large trees, beside the same edits of a text; an object each, for its 512 calls. */
    private static void editsOfLargeTrees() {
        for (String shape : new String[] {chain(60), star(59), "(" + chain(31) + star(27) + ")", ROW}) {
            for (int v = 0; v < shape.length() / 2; v += 1 + v % 3) {
                editsAt(shape, v);
            }
        }
    }

    private static void editsAt(String shape, int v) {
        ExcessTree x = numbered(shape);
        int nodes = x.size(0);
        int children = x.node(v, 8);
        int below = x.node(v, 9);
        String before = textOf(x);
        int open = before.indexOf("(" + (1000 + v));
        int close = closeIn(before, open);
        String ahead = before.substring(0, open);
        String own = before.substring(open, open + 5);
        String inside = before.substring(open + 5, close);
        String behind = before.substring(close + 1);
        String at = " at " + v + " of " + shape;

        x = numbered(shape);
        due(31, "first leaf" + at, x.leaf(v, 0, 2000), v + 1);
        is(31, "first leaf" + at, x, ahead + own + "(2000)" + inside + ")" + behind);
        x = numbered(shape);
        due(31, "last leaf" + at, x.leaf(v, children, 2000), v + below);
        is(31, "last leaf" + at, x, ahead + own + inside + "(2000))" + behind);
        x = numbered(shape);
        due(34, "wrap" + at, x.wrap(v, 0, children, 2000), v + 1);
        is(34, "wrap" + at, x, ahead + own + "(2000" + inside + "))" + behind);
        if (v == 0) {
            return;
        }
        x = numbered(shape);
        due(35, "melt" + at, x.melt(v), nodes - 1);
        is(35, "melt" + at, x, ahead + inside + behind);
        x = numbered(shape);
        due(33, "fell" + at, x.fell(v), below);
        is(33, "fell" + at, x, ahead + behind);
        x = numbered(shape);
        String rest = ahead + behind;
        due(36, "graft" + at, x.graft(v, 0, 0), 1);
        is(36, "graft" + at, x, rest.substring(0, 5) + own + inside + ")" + rest.substring(5));
    }

    private static int closeIn(String text, int open) {
        int depth = 0;
        for (int i = open; i < text.length(); i++) {
            depth += text.charAt(i) == '(' ? 1 : text.charAt(i) == ')' ? -1 : 0;
            if (depth == 0) {
                return i;
            }
        }
        return -1;
    }

    private static void seeds() {
        ExcessTree x = new ExcessTree();
        due(37, "grow(0, 0)", x.grow(0, 0), BAD);
        due(37, "grow(0, 65)", x.grow(0, 65), BAD);
        due(37, "grow(0, -1)", x.grow(0, -1), BAD);
        due(37, "size(0)", x.size(0), 0);
        due(37, "grow(9, 1)", x.grow(9, 1), 0);
        is(37, "grow(9, 1)", x, "(0)");
        x.set(0, 7);
        x.keep(0);
        due(37, "grow(1, 2)", x.grow(1, 2), 1);
        is(37, "grow(1, 2)", x, "(0(0))");
        due(37, "grow(7, 64)", x.grow(7, 64), 8);
        due(37, "size(0)", x.size(0), 64);
        summariesAreTrue(37, "grow(7, 64)", x, textOf(x));
        due(37, "sum(0, 0)", x.sum(0, 0), 0);
        due(37, "IMAGES stay", x.back(0), 1);
        due(37, "weight of the IMAGE", x.weight(0), 7);
        for (int seed : new int[] {0, 1, -1, 42, MOST, FEWEST}) {
            String row = "()";
            int s = seed;
            for (int n = 1; n < 20; n++) {
                s = s * 1103515245 + 12345;
                int close = closeOf(row, (s >> 16 & 0x7fff) % n);
                row = row.substring(0, close) + "()" + row.substring(close);
            }
            ExcessTree y = new ExcessTree();
            y.grow(seed, 20);
            for (int p = 0; p < 40; p++) {
                due(37, "grow(" + seed + ", 20), bit(" + p + ")", y.bit(p), row.charAt(p) == '(' ? 1 : 0);
            }
        }
    }

    private static int closeOf(String row, int v) {
        int p = -1;
        for (int n = 0; n <= v; n++) {
            p = row.indexOf('(', p + 1);
        }
        int open = 0;
        do {
            open += row.charAt(p) == '(' ? 1 : -1;
            p++;
        } while (open > 0);
        return p - 1;
    }

    private static void images() {
        ExcessTree x = told("(1(2))");
        due(38, "keep(-1)", x.keep(-1), BAD);
        due(38, "keep(2)", x.keep(2), BAD);
        due(38, "keep(0)", x.keep(0), 0);
        due(38, "keep(0) again", x.keep(0), 1);
        due(39, "back(1)", x.back(1), STATE);
        due(39, "back(2)", x.back(2), BAD);
        due(39, "back(-1)", x.back(-1), BAD);
        x.leaf(1, 0, 3);
        x.set(0, 9);
        due(38, "keep(1)", x.keep(1), 0);
        due(39, "back(0)", x.back(0), 2);
        is(39, "back(0)", x, "(1(2))");
        x.set(1, 5);
        due(39, "back(1)", x.back(1), 3);
        is(39, "back(1)", x, "(9(2(3)))");
        due(39, "back(0)", x.back(0), 2);
        is(39, "back(0), that stays as it was", x, "(1(2))");
        x.fell(0);
        due(38, "keep(0) of none", x.keep(0), 1);
        due(39, "back(1)", x.back(1), 3);
        due(39, "back(0) to none", x.back(0), 0);
        is(39, "back(0)", x, "");
        due(46, "count(0)", x.count(0), 2);
    }

    private static void sheets() {
        ExcessTree x = new ExcessTree();
        due(40, "sheet(-1, 0, 1)", x.sheet(-1, 0, 1), BAD);
        due(40, "sheet(4, 0, 1)", x.sheet(4, 0, 1), BAD);
        due(40, "sheet(0, -1, 1)", x.sheet(0, -1, 1), BAD);
        due(40, "sheet(0, 3, 1)", x.sheet(0, 3, 1), BAD);
        due(40, "sheet(0, 0, 41)", x.sheet(0, 0, 41), BAD);
        due(40, "sheet(0, 0, -1)", x.sheet(0, 0, -1), -14);
        due(40, "sheet(0, 3, -1)", x.sheet(0, 3, -1), BAD);
        due(40, "sheet(4, 0, FEWEST)", x.sheet(4, 0, FEWEST), BAD);
        due(40, "count(2)", x.count(2), NONE);
        due(40, "sheet(0, 0, 40)", x.sheet(0, 0, 40), 1);
        due(40, "sheet(1, 1, 2)", x.sheet(1, 1, 2), 1);
        due(40, "sheet(2, 2, 2)", x.sheet(2, 2, 2), 1);
        due(40, "sheet(3, 0, 0)", x.sheet(3, 0, 0), 1);

        due(41, "lay(0, 39, 300)", x.lay(0, 39, 300), 1);
        due(41, "lay(0, 0, 255)", x.lay(0, 0, 255), 1);
        due(41, "lay(1, 1, 2^32 and 5)", x.lay(1, 1, 4294967301L), 1);
        due(41, "lay(1, 0, 2^31)", x.lay(1, 0, 2147483648L), 1);
        due(41, "lay(2, 1, ..)", x.lay(2, 1, Long.MIN_VALUE), 1);
        due(41, "lay(3, 0, 0)", x.lay(3, 0, 0), -12);
        due(41, "lay(0, 40, 0)", x.lay(0, 40, 0), -12);
        due(41, "lay(0, -1, 0)", x.lay(0, -1, 0), -12);
        due(41, "lay(4, 0, 0)", x.lay(4, 0, 0), BAD);
        due(41, "lay(-1, 0, 0)", x.lay(-1, 0, 0), BAD);
        due(41, "lay on nothing", new ExcessTree().lay(1, -1, 0), -11);

        due(42, "look(0, 39)", x.look(0, 39), 44);
        due(42, "look(0, 0)", x.look(0, 0), -1);
        due(42, "look(0, 1)", x.look(0, 1), 0);
        due(42, "look(1, 1)", x.look(1, 1), 5);
        due(42, "look(1, 0)", x.look(1, 0), FEWEST);
        due(42, "look(2, 1)", x.look(2, 1), Long.MIN_VALUE);
        due(42, "look(0, 40)", x.look(0, 40), 0);
        due(42, "look(0, -1)", x.look(0, -1), 0);
        due(42, "look(4, 0)", x.look(4, 0), 0);
        due(42, "look(-1, 0)", x.look(-1, 0), 0);
        due(42, "look on nothing", new ExcessTree().look(0, 0), 0);

        due(40, "sheet(0, 2, -5)", x.sheet(0, 2, -5), -14);
        due(40, "what is refused changes nothing", x.look(0, 39), 44);
        due(40, "sheet(0, 2, 40)", x.sheet(0, 2, 40), 1);
        due(40, "it is new", x.look(0, 39), 0);
        due(40, "it is new", x.look(0, 0), 0);
        x.lay(0, 39, 7);
        x.sheet(0, 2, 39);
        due(42, "look behind the end", x.look(0, 39), 0);
    }

    private static void reads() {
        ExcessTree x = told("(7)");
        x.keep(0);
        x.sheet(0, 0, 2);
        x.lay(0, 0, 0b01011000);
        x.lay(0, 1, 0b00000001);
        due(43, "read(0, 0, 3, 4)", x.read(0, 0, 3, 4), STATE);
        due(43, "read(0, 0, 4, 2)", x.read(0, 0, 4, 2), 1);
        is(43, "read(0, 0, 4, 2)", x, "(0)");
        due(43, "IMAGES stay", x.count(0), 1);
        due(43, "read(0, 0, 3, 6): 110101", x.read(0, 0, 3, 6), STATE);
        due(43, "read(0, 0, 3, 7): odd", x.read(0, 0, 3, 7), STATE);
        due(43, "read(0, 0, 3, 8): 11010100", x.read(0, 0, 3, 8), 4);
        is(43, "read(0, 0, 3, 8)", x, "(0(0)(0)(0))");
        due(43, "read(0, 0, 4, 4): 1010, two trees", x.read(0, 0, 4, 4), STATE);
        due(43, "read(0, 0, 5, 2): 01", x.read(0, 0, 5, 2), STATE);
        due(43, "read(0, 0, 8, 8)", x.read(0, 0, 8, 8), STATE);
        due(43, "read(0, 0, 8, 9)", x.read(0, 0, 8, 9), -12);
        due(43, "read(0, 0, 16, 1)", x.read(0, 0, 16, 1), -12);
        due(43, "read(0, 0, MOST, 2)", x.read(0, 0, MOST, 2), -12);
        due(43, "read(0, 0, MOST, 128)", x.read(0, 0, MOST, 128), -12);
        due(43, "read(0, 1, 3, 8)", x.read(0, 1, 3, 8), -13);
        due(43, "read(0, 2, MOST, 8)", x.read(0, 2, MOST, 8), -13);
        due(43, "read(1, 1, MOST, 8)", x.read(1, 1, MOST, 8), -11);
        due(43, "read(4, 0, 0, 1)", x.read(4, 0, 0, 1), BAD);
        due(43, "read(-1, 0, 0, 1)", x.read(-1, 0, 0, 1), BAD);
        due(43, "read(0, 3, 0, 1)", x.read(0, 3, 0, 1), BAD);
        due(43, "read(0, -1, 0, 1)", x.read(0, -1, 0, 1), BAD);
        due(43, "read(0, 0, 0, 129)", x.read(0, 0, 0, 129), BAD);
        due(43, "read(0, 0, 0, -1)", x.read(0, 0, 0, -1), BAD);
        due(43, "read(0, 0, -1, 0)", x.read(0, 0, -1, 0), BAD);
        is(43, "read refused", x, "(0(0)(0)(0))");
        due(43, "read(0, 2, MOST, 0)", x.read(0, 2, MOST, 0), 0);
        is(43, "read of none", x, "");
        x.sheet(2, 2, 3);
        x.lay(2, 0, -1L << 60);
        x.lay(2, 1, (1L << 60) - 1);
        due(43, "read(2, 2, 60, 128)", x.read(2, 2, 60, 128), 64);
        due(43, "size(2)", x.size(2), 63);
        summariesAreTrue(43, "read(2, 2, 60, 128)", x, textOf(x));
    }

    private static void stows() {
        ExcessTree x = told("(1(2)(3))");
        x.sheet(0, 0, 2);
        x.lay(0, 0, -1);
        x.lay(0, 1, -1);
        due(44, "stow(0, 0, 5)", x.stow(0, 0, 5), 6);
        due(45, "torn()", x.torn(), 0);
        due(44, "look(0, 0)", x.look(0, 0), (byte) 0b01111111);
        due(44, "look(0, 1)", x.look(0, 1), (byte) 0b11111001);
        due(44, "stow(0, 0, 14)", x.stow(0, 0, 14), 2);
        due(45, "torn()", x.torn(), 2);
        due(44, "stow(0, 0, 16)", x.stow(0, 0, 16), 0);
        due(45, "torn()", x.torn(), 2);
        due(44, "stow(1, 0, 0)", x.stow(1, 0, 0), 0);
        due(45, "torn()", x.torn(), 1);
        due(44, "stow(0, 1, MOST)", x.stow(0, 1, MOST), 0);
        due(45, "torn()", x.torn(), 3);
        due(44, "stow(0, 0, -1)", x.stow(0, 0, -1), BAD);
        due(44, "stow(4, 0, 0)", x.stow(4, 0, 0), BAD);
        due(44, "stow(-1, 0, 0)", x.stow(-1, 0, 0), BAD);
        due(44, "stow(0, 3, 0)", x.stow(0, 3, 0), BAD);
        due(44, "stow(0, -1, 0)", x.stow(0, -1, 0), BAD);
        due(45, "torn() behind BAD", x.torn(), 3);
        due(44, "stow(0, 0, MOST)", x.stow(0, 0, MOST), 0);
        due(45, "torn()", x.torn(), 2);
        is(44, "stow", x, "(1(2)(3))");
        x.sheet(1, 1, 1);
        due(44, "stow(1, 1, 29)", x.stow(1, 1, 29), 3);
        due(44, "look(1, 0)", x.look(1, 0), 3 << 29);
        due(44, "stow(1, 1, 30)", x.stow(1, 1, 30), 2);
        due(44, "look(1, 0)", x.look(1, 0), 7 << 29);
        x.sheet(2, 2, 2);
        due(44, "stow(2, 2, 60)", x.stow(2, 2, 60), 6);
        due(44, "look(2, 0)", x.look(2, 0), 0b1011L << 60);
        due(44, "look(2, 1)", x.look(2, 1), 0);
        due(44, "stow(3, 2, 0) on nothing", x.stow(3, 2, 0), 0);
        due(45, "torn()", x.torn(), 1);
        x.fell(0);
        due(44, "stow of none", x.stow(3, 0, 0), 0);
        due(45, "torn() of none", x.torn(), 0);
        x.grow(7, 64);
        x.sheet(3, 2, 2);
        due(44, "stow(3, 2, 0)", x.stow(3, 2, 0), 128);
        int odd = x.count(3);
        x.fell(0);
        due(43, "read(3, 2, 0, 128)", x.read(3, 2, 0, 128), 64);
        due(46, "count(3)", x.count(3), odd);
        due(46, "count(3)", x.count(3), 37);
    }

    private static void counts() {
        ExcessTree x = told("(1(2)(3))");
        row(46, "count", x::count, 0, 0, NONE, 2, BAD);
        due(46, "count(-1)", x.count(-1), BAD);
        x.keep(1);
        due(46, "count(0)", x.count(0), 1);
        x.keep(0);
        due(46, "count(0)", x.count(0), 2);
        x.feed(1);
        x.feed(2);
        due(46, "count(1)", x.count(1), 2);
        x.sheet(1, 0, 7);
        due(46, "count(2)", x.count(2), NONE);
        x.sheet(0, 0, 0);
        due(46, "count(2)", x.count(2), 0);
        x.sheet(0, 2, 40);
        due(46, "count(2)", x.count(2), 40);
        due(46, "count(3) of a star", told(star(63)).count(3), 63);
        due(46, "count(3) of a chain", told(chain(64)).count(3), 32);
    }

    public static void main(String[] args) {
        newObject();
        tape();
        texts();
        faultsOfTexts();
        sizesAndBits();
        ranksAndSelects();
        searches();
        leastsAndBlocks();
        nodes();
        nodesFarAway();
        weights();
        leavesComeAndGo();
        subtreesGo();
        wrapsAndMelts();
        grafts();
        editsOfLargeTrees();
        seeds();
        images();
        sheets();
        reads();
        stows();
        counts();
        System.out.println(wrong == 0 ? "all answers are as due" : wrong + " answers are not as due");
        if (wrong != 0) {
            System.exit(1);
        }
    }
}
