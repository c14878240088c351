import java.nio.file.Files;
import java.nio.file.Path;
import java.util.ArrayList;
import java.util.Arrays;
import java.util.List;

/**
 * For each sentence of the document that names a boundary case, what holds just within and just outside it.
 * A call that is refused, or that only asks, is made on one of two like objects: both must then be alike.
 */
public final class EdgeTest {
    private static final int BAD = -1, STATE = -2, FULL = -3, NONE = -4, OVER = -5;
    private static final int MOST = Integer.MAX_VALUE, FEWEST = Integer.MIN_VALUE;
    /** Row ((()())()(((()))())) : ten nodes, of which 1 has 2 and 3, 5 has 6 and 9, 6 has 7, and 7 has 8. */
    private static final String TEXT = "(5(3(2)(9))(4)((7(1(6)))(8)))";
    private static String document = "";
    private static String sentence = "";
    private static int wrong = 0;

    private interface Setup {
        void on(ExcessTree x);
    }

    private interface Call {
        long on(ExcessTree x);
    }

    private interface CallWith {
        long on(ExcessTree x, int n);
    }

    // ---- how answers are judged

    private static void tellWrong(String what) {
        wrong++;
        System.out.println("\"" + sentence + "\": " + what);
    }

    /** The words of the document that the next checks are of. */
    private static void of(String words) {
        sentence = words;
        if (!document.isEmpty() && !document.contains(words)) {
            tellWrong("the document does not say so");
        }
    }

    private static void due(String call, long got, long want) {
        if (got != want) {
            tellWrong(call + " answered " + got + ", due is " + want);
        }
    }

    private static void same(String what, String got, String want) {
        if (!got.equals(want)) {
            tellWrong(what + " is " + got + ", due is " + want);
        }
    }

    private static ExcessTree made(Setup setup) {
        ExcessTree x = new ExcessTree();
        setup.on(x);
        return x;
    }

    private static void answers(Setup setup, String call, Call c, long want) {
        due(call, c.on(made(setup)), want);
    }

    /** A call that is refused, or only asks: its answer, and that all stays as it was. */
    private static void keeps(Setup setup, String call, Call c, long want) {
        ExcessTree x = made(setup);
        due(call, c.on(x), want);
        same("all behind " + call, everything(x), everything(made(setup)));
    }

    private static void bad(Setup setup, String call, Call c) {
        keeps(setup, call, c, BAD);
    }

    private static void badOutside(Setup setup, String call, CallWith c, int from, int to) {
        int[] outside = {from - 1, to + 1, FEWEST, MOST};
        for (int n : outside) {
            if (n < from || n > to) {
                bad(setup, call + " with " + n, x -> c.on(x, n));
            }
        }
    }

    private static void badBelow0(Setup setup, String call, CallWith c) {
        bad(setup, call + " with -1", x -> c.on(x, -1));
        bad(setup, call + " with FEWEST", x -> c.on(x, FEWEST));
    }

    private static void list(Setup setup, String call, CallWith c, int from, int... want) {
        ExcessTree x = made(setup);
        for (int i = 0; i < want.length; i++) {
            due(call + " with " + (from + i), c.on(x, from + i), want[i]);
        }
        same("all behind " + call, everything(x), everything(made(setup)));
    }

    // ---- all that can be seen of an object; it is changed by that

    private static String treeOf(ExcessTree x) {
        StringBuilder s = new StringBuilder();
        int places = x.size(3);
        int v = 0;
        for (int p = 0; p < places; p++) {
            s.append(x.bit(p) == 1 ? "(" + x.weight(v++) : ")");
        }
        for (int b = 0; b < x.size(4); b++) {
            s.append(' ').append(x.block(b, 0)).append(' ').append(x.block(b, 1)).append(' ').append(x.block(b, 2));
        }
        return s.toString();
    }

    /** The tree alone, without the summaries. */
    private static String shapeOf(ExcessTree x) {
        String tree = treeOf(x);
        int end = tree.indexOf(' ');
        return end < 0 ? tree : tree.substring(0, end);
    }

    /** Lane, length and cells, asked by reads of one bit: they are refused, as it is no tree. */
    private static String sheetOf(ExcessTree x, int k) {
        int lane = 0;
        while (lane < 3 && x.read(k, lane, MOST, 1) == -13) {
            lane++;
        }
        if (lane == 3 || x.read(k, lane, MOST, 1) == -11) {
            return "nothing";
        }
        int bits = lane == 0 ? 8 : 32 * lane;
        int least = 0;
        int most = 41;
        while (least < most) {
            int middle = (least + most) / 2;
            if (x.read(k, lane, bits * middle, 1) == -12) {
                most = middle;
            } else {
                least = middle + 1;
            }
        }
        StringBuilder s = new StringBuilder("lane " + lane + ", " + least + " cells:");
        for (int i = 0; i < Math.min(least, 4); i++) {
            s.append(' ').append(x.look(k, i));
        }
        return s.append(" .. ").append(x.look(k, least - 1)).toString();
    }

    private static String everything(ExcessTree x) {
        StringBuilder s = new StringBuilder("sizes");
        for (int what = 0; what < 5; what++) {
            s.append(' ').append(x.size(what));
        }
        s.append(" odd ").append(x.count(3)).append("\n  tree ").append(treeOf(x));
        return s.append(allElse(x)).toString();
    }

    private static String allElse(ExcessTree x) {
        StringBuilder s = new StringBuilder("\n  counts");
        for (int what = 0; what < 3; what++) {
            s.append(' ').append(x.count(what));
        }
        s.append(" fault ").append(x.fault()).append(" torn ").append(x.torn());
        for (int k = 0; k < 4; k++) {
            s.append("\n  sheet ").append(sheetOf(x, k));
        }
        for (int k = 0; k < 2; k++) {
            int nodes = x.back(k);
            s.append("\n  image ").append(nodes).append(nodes < 0 ? "" : treeOf(x));
        }
        int nodes = x.text();
        return s.append("\n  tape ").append(nodes).append(nodes < 0 ? " " + x.fault() : treeOf(x)).toString();
    }

    // ---- objects to begin with

    private static void feedAll(ExcessTree x, String text) {
        for (int i = 0; i < text.length(); i++) {
            x.feed(text.charAt(i));
        }
    }

    private static int tell(ExcessTree x, String text) {
        feedAll(x, text);
        return x.text();
    }

    private static Setup told(String text) {
        return x -> tell(x, text);
    }

    private static String chain(int n) {
        return "(".repeat(n) + ")".repeat(n);
    }

    private static String star(int leaves) {
        return "(" + "()".repeat(leaves) + ")";
    }

    /** A torn stow, a fault of a text, sheets of each lane and nothing, an image, a text begun. */
    private static void beside(ExcessTree x) {
        x.sheet(0, 0, 3);
        x.lay(0, 0, 77);
        x.lay(0, 2, -3);
        x.sheet(1, 1, 2);
        x.lay(1, 1, 0xB);
        x.sheet(2, 2, 1);
        x.lay(2, 0, Long.MIN_VALUE + 5);
        x.stow(2, 2, 62);
        x.feed('x');
        x.text();
        feedAll(x, "(4(5))");
    }

    private static void none(ExcessTree x) {
    }

    /** No nodes, and all else. */
    private static void bare(ExcessTree x) {
        tell(x, "(8(9))");
        x.keep(0);
        beside(x);
        x.fell(0);
    }

    private static void ten(ExcessTree x) {
        tell(x, TEXT);
        x.keep(1);
        x.set(5, MOST);
        beside(x);
    }

    /** 64 nodes, the root with 63 children. */
    private static void full(ExcessTree x) {
        x.plant(1);
        x.keep(0);
        x.sheet(3, 2, 2);
        x.lay(3, 0, 0x5555555555555555L << 1 | 1);
        x.lay(3, 1, 0x5555555555555555L >>> 1);
        x.read(3, 2, 0, 128);
        x.set(63, 6);
        x.set(0, 7);
        x.sheet(3, 2, 0);
        beside(x);
    }

    // ---- the terms

    private static void termsOfAnswers() {
        of("FULL -3 (a 65th NODE)");
        keeps(EdgeTest::full, "leaf(0, 0, 0) of 64", x -> x.leaf(0, 0, 0), FULL);
        keeps(EdgeTest::full, "leaf(63, 0, MOST) of 64", x -> x.leaf(63, 0, MOST), FULL);
        keeps(EdgeTest::full, "wrap(0, 0, 63, 0) of 64", x -> x.wrap(0, 0, 63, 0), FULL);
        keeps(EdgeTest::full, "wrap(9, 0, 0, 1) of 64", x -> x.wrap(9, 0, 0, 1), FULL);
        answers(x -> x.grow(1, 63), "leaf(0, 0, 0) of 63", x -> x.leaf(0, 0, 0), 1);
        answers(x -> x.grow(1, 63), "wrap(0, 0, 1, 0) of 63", x -> x.wrap(0, 0, 1, 0), 1);

        of("OVER -5 (a sum is above 2147483647)");
        Setup edge = told("(1(2)(3))");
        answers(edge, "sum of just 2147483647", x -> x.set(0, MOST - 5) - 1 + x.sum(0, 0), MOST);
        answers(edge, "sum of one more", x -> x.set(0, MOST - 4) - 1 + x.sum(0, 0), OVER);

        of("the first that fits");
        bad(EdgeTest::ten, "plant(-1) where there are NODES", x -> x.plant(-1));
        bad(EdgeTest::full, "leaf(0, 64, 0) of 64", x -> x.leaf(0, 64, 0));
        bad(EdgeTest::full, "leaf(0, -1, 0) of 64", x -> x.leaf(0, -1, 0));
        bad(EdgeTest::full, "leaf(64, 0, 0) of 64", x -> x.leaf(64, 0, 0));
        bad(EdgeTest::full, "leaf(0, 0, -1) of 64", x -> x.leaf(0, 0, -1));
        bad(EdgeTest::full, "wrap(0, 1, 63, 0) of 64", x -> x.wrap(0, 1, 63, 0));
        bad(EdgeTest::full, "wrap(0, 0, 1, -1) of 64", x -> x.wrap(0, 0, 1, -1));
        bad(EdgeTest::full, "wrap(64, 0, 0, 0) of 64", x -> x.wrap(64, 0, 0, 0));
        bad(EdgeTest::ten, "select(1000, 3)", x -> x.select(1000, 3));
        bad(EdgeTest::ten, "select(-1, 0)", x -> x.select(-1, 0));
        bad(EdgeTest::ten, "level(1000, 3)", x -> x.level(1000, 3));
        bad(EdgeTest::ten, "beside(0, 2)", x -> x.beside(0, 2));
        bad(EdgeTest::ten, "node(0, 14)", x -> x.node(0, 14));
        answers(x -> x.grow(3, 2), "sum(0, 2) of what is OVER",
                x -> x.set(0, MOST) + x.set(1, 1) + x.sum(0, 2), BAD);
        bad(EdgeTest::none, "back(2), there is no IMAGE", x -> x.back(2));
        bad(EdgeTest::ten, "sheet(4, 0, -1)", x -> x.sheet(4, 0, -1));
        bad(EdgeTest::ten, "sheet(0, 3, -1)", x -> x.sheet(0, 3, -1));
        bad(EdgeTest::ten, "lay(4, -1, 0)", x -> x.lay(4, -1, 0));
        bad(EdgeTest::ten, "read(3, 0, -1, 2) of nothing", x -> x.read(3, 0, -1, 2));
        bad(EdgeTest::ten, "read(3, 3, 0, 2) of nothing", x -> x.read(3, 3, 0, 2));
        bad(EdgeTest::ten, "read(3, 0, 0, 129) of nothing", x -> x.read(3, 0, 0, 129));
        keeps(EdgeTest::ten, "read(0, 0, 0, 25): no ROW, but INDEX", x -> x.read(0, 0, 0, 25), -12);
        keeps(EdgeTest::ten, "graft(1, 1, 99): STATE, then BAD", x -> x.graft(1, 1, 99), STATE);
        bad(EdgeTest::ten, "graft(0, 10, 0): BAD, then STATE", x -> x.graft(0, 10, 0));

        of("what is refused changes nothing (but THE TAPE, and as told)");
        ExcessTree x = made(EdgeTest::ten);
        x.feed('x');
        same("the tree ahead", shapeOf(x), "(5(3(2)(9))(4)(2147483647(7(1(6)))(8)))");
        due("text()", x.text(), -16);
        due("count(1)", x.count(1), 0);
        due("count(0)", x.count(0), 1);
        same("the tree behind", shapeOf(x), "(5(3(2)(9))(4)(2147483647(7(1(6)))(8)))");
    }

    private static void termsOfTheTree() {
        of("64 at most; none at first");
        list(EdgeTest::none, "size", (x, what) -> x.size(what), 0, 0, 0, NONE, 0, 0);
        answers(EdgeTest::full, "size(0)", x -> x.size(0), 64);
        keeps(EdgeTest::full, "a 65th", x -> x.leaf(0, 63, 0), FULL);
        ExcessTree grown = new ExcessTree();
        grown.plant(0);
        for (int v = 1; v < 64; v++) {
            due("leaf " + v, grown.leaf(v - 1, 0, v), v);
        }
        due("a 65th", grown.leaf(63, 0, 0), FULL);
        due("size(0)", grown.size(0), 64);

        of("numbered as they are met from above (a NODE ahead of its children, these by order, each with all "
                + "below it ahead of the next one); NODE 0 is the root");
        list(EdgeTest::ten, "node(.., 3)", (x, v) -> x.node(v, 3), 0, NONE, 0, 1, 1, 0, 0, 5, 6, 7, 5);

        of("Each has a WEIGHT (0 to 2147483647)");
        for (int w : new int[] {0, 1, MOST}) {
            answers(EdgeTest::none, "plant(" + w + ")", x -> x.plant(w) + x.weight(0), w);
            answers(EdgeTest::ten, "leaf(0, 0, " + w + ")", x -> x.leaf(0, 0, w) - 1 + x.weight(1), w);
            answers(EdgeTest::ten, "wrap(0, 0, 1, " + w + ")", x -> x.wrap(0, 0, 1, w) - 1 + x.weight(1), w);
            answers(EdgeTest::ten, "set(0, " + w + ")", x -> x.set(0, w) - 5 + x.weight(0), w);
        }

        of("PLACES 0 on: two of each NODE");
        for (int n : new int[] {1, 2, 31, 32, 33, 63, 64}) {
            answers(x -> x.grow(5, n), "size(3) of " + n, x -> x.size(3), 2 * n);
            keeps(x -> x.grow(5, n), "bit of the last PLACE of " + n, x -> x.bit(2 * n - 1), 0);
            bad(x -> x.grow(5, n), "bit behind it", x -> x.bit(2 * n));
        }

        of("DEPTH of a NODE: how many it has above it");
        answers(told(chain(64)), "node(63, 2) of a chain", x -> x.node(63, 2), 63);
        answers(told(chain(64)), "node(0, 2) of a chain", x -> x.node(0, 2), 0);

        of("BLOCK b: PLACES 16 times b to 15 more, as far as they are");
        for (int n : new int[] {1, 7, 8, 9, 15, 16, 17, 24, 25, 56, 57, 63, 64}) {
            int blocks = n / 8 + (n % 8 == 0 ? 0 : 1);
            answers(told(chain(n)), "size(4) of " + n, x -> x.size(4), blocks);
            bad(told(chain(n)), "a BLOCK behind the last of " + n, x -> x.block(blocks, 0));
            // The last block has only ) but for a chain so short that its ( are there too.
            int opens = Math.max(0, n - 16 * (blocks - 1));
            int closes = 2 * n - 16 * (blocks - 1) - opens;
            answers(told(chain(n)), "last BLOCK of " + n, x -> x.block(blocks - 1, 0), 100 + opens - closes);
        }
        answers(told("(" + chain(6) + "()())"), "BLOCK 1 of two PLACES, least", x -> x.block(1, 1), 98);
        answers(told("(" + chain(6) + "()())"), "BLOCK 1 of two PLACES, greatest", x -> x.block(1, 2), 99);
    }

    private static void termsOfTheTape() {
        of("THE TAPE has 160 bytes, places from 0");
        answers(EdgeTest::none, "a text of 160 bytes", x -> tell(x, " ".repeat(158) + "()"), 1);
        fault(")", 0, 2);
        fault(" ".repeat(159) + ")", 159, 2);
        fault(" ".repeat(159) + "(", 160, 2);
        fault(" ".repeat(155) + "(9999", 160, 2);

        of("TOKENS, each as long as may be, blanks (32) between");
        ExcessTree x = new ExcessTree();
        due("a NUMBER of two figures", tell(x, "(12)"), 1);
        due("its WEIGHT", x.weight(0), 12);
        due("two NUMBERS of one", tell(x, "(1 2)"), -13);
        due("the FAULT", x.fault(), 2);
        due("no blanks", tell(x, "(1(2)(3)())"), 4);
        due("many blanks", tell(x, "  (  1  (  2  )  (  3  )  (  )  )  "), 4);
        same("the tree", shapeOf(x), "(1(2)(3)(0))");
        due("blanks do not part what is one TOKEN of a sign", tell(x, "( )"), 1);

        of("NUMBERS (1 to 4 figures), one ( , one )");
        Object[][] numbers = {{"0", 0}, {"9", 9}, {"0000", 0}, {"0001", 1}, {"9999", 9999}, {"1000", 1000}, {"090", 90}};
        for (Object[] number : numbers) {
            due("a NUMBER " + number[0], tell(x, "(" + number[0] + ")"), 1);
            due("WEIGHT " + number[0], x.weight(0), (Integer) number[1]);
        }
        due("five figures", tell(x, "(10000)"), -11);
        due("the FAULT", x.fault(), 1);
        due("five figures of 0", tell(x, "(00000)"), -11);
        due("the FAULT", x.fault(), 1);
        same("the tree", shapeOf(x), "(90)");
    }

    private static void termsOfTexts() {
        of("text: [ tree ]   tree: ( [ N ] { tree } )");
        ExcessTree x = made(told(TEXT));
        due("a text of one", tell(x, "()"), 1);
        due("an empty text", x.text(), 0);
        due("size(0)", x.size(0), 0);
        due("a text of one", tell(x, "()"), 1);
        due("a text of blanks", tell(x, "  "), 0);
        due("size(0)", x.size(0), 0);
        due("two trees", tell(x, "()()"), -12);
        due("a NUMBER behind a tree in it", tell(x, "(()1)"), -13);
        due("a NUMBER ahead of all", tell(x, "1()"), -10);
        due("a NUMBER behind all", tell(x, "()1"), -12);
        due("two NUMBERS", tell(x, "(1 1)"), -13);
        due("no end", tell(x, "(()"), -13);
        due("one end too many", tell(x, "())"), -12);
        due("size(0)", x.size(0), 0);

        of("N: WEIGHT (0, if there is none)");
        tell(x, "(9(8)(7))");
        due("a text without NUMBERS", tell(x, "(()(3))"), 3);
        same("the tree", shapeOf(x), "(0(0)(3))");
    }

    private static void fault(String text, int place, int kind) {
        ExcessTree x = made(EdgeTest::ten);
        x.end(0);
        String tree = treeOf(x);
        due("text() of " + text, tell(x, text), -10 - place);
        due("fault() of " + text, x.fault(), kind);
        due("count(1) behind " + text, x.count(1), 0);
        due("count(0) behind " + text, x.count(0), 1);
        same("the tree behind " + text, treeOf(x), tree);
        due("back(1) behind " + text, x.back(1), 10);
    }

    private static void termsOfFaults() {
        of("the first met as it is read (a TOKEN is read when the one before has been taken)");
        fault("(1 2 x)", 3, 2);
        fault("(1 x 2)", 3, 1);
        fault(") x", 0, 2);
        fault("x )", 0, 1);
        fault("()) 12345", 2, 2);
        fault("() 12345 )", 3, 1);
        fault("(1(2)3(4)x", 5, 2);
        fault("(".repeat(64) + "1 2(", 66, 2);
        fault("(".repeat(64) + "x(", 64, 1);
        fault("(".repeat(65) + "x", 64, 5);

        of("1 no TOKEN, a NUMBER that is too long (its first byte)");
        for (int c = 0; c < 128; c++) {
            boolean isToken = c == 32 || c == '(' || c == ')' || c >= '0' && c <= '9';
            if (!isToken) {
                fault("( " + (char) c + ")", 2, 1);
                fault("" + (char) c, 0, 1);
            }
        }
        fault("(12345)", 1, 1);
        fault("(  99999 )", 3, 1);
        fault("(7(123456789012345678901234567890))", 3, 1);
        fault("12345", 0, 1);
        fault("(1 23456)", 3, 1);
        fault("(1234x)", 5, 1);

        of("2 a TOKEN that can not stand there (or the end: the length)");
        fault(")", 0, 2);
        fault("7", 0, 2);
        fault("7)", 0, 2);
        fault("  9999", 2, 2);
        fault("()(", 2, 2);
        fault("()  )", 4, 2);
        fault("() 3", 3, 2);
        fault("(1234 5)", 6, 2);
        fault("((2)2)", 4, 2);
        fault("(", 1, 2);
        fault("(   ", 4, 2);
        fault("((1)(2)  ", 9, 2);
        fault("(1234", 5, 2);

        of("5 the 65th (");
        fault("(".repeat(65), 64, 5);
        fault("(" + "()".repeat(63) + "( ))", 127, 5);
        fault("(" + "()".repeat(63) + "   (", 130, 5);
        ExcessTree x = new ExcessTree();
        due("the 64th", tell(x, "(" + "()".repeat(63) + ")"), 64);
        due("the 64th, deep", tell(x, chain(64)), 64);
    }

    private static void termsOfTakenTexts() {
        of("A text that is taken tells THE TREE, in place of what there was; IMAGES are gone.");
        for (String text : new String[] {"(1(2))", "", " "}) {
            ExcessTree x = made(EdgeTest::ten);
            x.keep(0);
            x.end(0);
            due("text() of " + text, tell(x, text), text.length() / 3);
            due("count(0)", x.count(0), 0);
            due("back(0)", x.back(0), STATE);
            due("back(1)", x.back(1), STATE);
            same("the tree", shapeOf(x), text.trim());
            due("torn()", x.torn(), 2);
            due("look(0, 0)", x.look(0, 0), 77);
            due("keep(0)", x.keep(0), 0);
        }
    }

    private static void termsOfSheets() {
        of("SHEETS 0 to 3 are rows of BYTES (lane 0), INTS (1), LONGS (2) with 0 to 40 CELLS, or nothing (at first)");
        for (int k = 0; k < 4; k++) {
            int sheet = k;
            keeps(EdgeTest::none, "lay(" + k + ", 0, 1) at first", x -> x.lay(sheet, 0, 1), -11);
            keeps(EdgeTest::none, "look(" + k + ", 0) at first", x -> x.look(sheet, 0), 0);
            for (int lane = 0; lane < 3; lane++) {
                for (int n : new int[] {0, 1, 39, 40}) {
                    ExcessTree x = new ExcessTree();
                    due("sheet(" + k + ", " + lane + ", " + n + ")", x.sheet(k, lane, n), 1);
                    same("it", sheetOf(x, k), "lane " + lane + ", " + n + " cells:" + " 0".repeat(Math.min(n, 4)) + " .. 0");
                    same("the next", sheetOf(x, (k + 1) % 4), "nothing");
                    due("lay in the last CELL", x.lay(k, n - 1, 9), n == 0 ? -12 : 1);
                    due("lay behind it", x.lay(k, n, 9), -12);
                }
            }
        }

        of("of 8, 32, 64 bits each, bit f being that of CELL f by so many (down) that f leaves by so many, the lowest first");
        for (int lane = 0; lane < 3; lane++) {
            int bits = lane == 0 ? 8 : 32 * lane;
            for (int f : new int[] {0, 1, bits - 1, bits, bits + 1, 2 * bits - 2}) {
                bitsAt(lane, bits, f);
            }
        }

        of("1 NULL (nothing), 2 INDEX, 3 CAST (another lane), 4 SIZE (below 0)");
        keeps(EdgeTest::ten, "lay(3, 0, 1) on nothing", x -> x.lay(3, 0, 1), -11);
        keeps(EdgeTest::ten, "lay(3, -1, 1) on nothing", x -> x.lay(3, -1, 1), -11);
        keeps(EdgeTest::ten, "lay(0, 3, 1)", x -> x.lay(0, 3, 1), -12);
        keeps(EdgeTest::ten, "lay(0, -1, 1)", x -> x.lay(0, -1, 1), -12);
        keeps(EdgeTest::ten, "read(0, 1, 0, 2)", x -> x.read(0, 1, 0, 2), -13);
        keeps(EdgeTest::ten, "sheet(0, 0, -1)", x -> x.sheet(0, 0, -1), -14);
        keeps(EdgeTest::ten, "sheet(3, 2, FEWEST)", x -> x.sheet(3, 2, FEWEST), -14);
    }

    /** The row 10 is laid from bit f on over ones. */
    private static void bitsAt(int lane, int bits, int f) {
        ExcessTree x = new ExcessTree();
        x.plant(1);
        x.sheet(0, lane, 2);
        x.lay(0, 0, -1);
        x.lay(0, 1, -1);
        due("stow(0, " + lane + ", " + f + ")", x.stow(0, lane, f), 2);
        for (int i = 0; i < 2; i++) {
            long cell = -1;
            if ((f + 1) / bits == i) {
                cell &= ~(1L << (f + 1) % bits);
            }
            // A cell of fewer bits is looked at as the number that it is, below 0 too.
            long want = lane == 0 ? (byte) cell : lane == 1 ? (int) cell : cell;
            due("look(0, " + i + ") behind stow(0, " + lane + ", " + f + ")", x.look(0, i), want);
        }
        due("read(0, " + lane + ", " + f + ", 2)", x.read(0, lane, f, 2), 1);
        if (f > 0) {
            due("read one bit ahead", x.read(0, lane, f - 1, 2), STATE);
        }
    }

    // ---- the promises: a new object, the text

    private static void newObject() {
        of("No NODES; SHEETS have nothing.");
        same("a new object", everything(new ExcessTree()), "sizes 0 0 -4 0 0 odd 0\n  tree "
                + "\n  counts 0 0 -4 fault 0 torn 0" + "\n  sheet nothing".repeat(4) + "\n  image -2".repeat(2)
                + "\n  tape 0");
    }

    private static void feeds() {
        of("A byte (0 to 127) comes behind THE TAPE: how many it has.");
        badOutside(EdgeTest::ten, "feed", (x, c) -> x.feed(c), 0, 127);
        bad(EdgeTest::ten, "feed(256 and 41)", x -> x.feed(256 + 41));
        bad(EdgeTest::ten, "feed(41 less 256)", x -> x.feed(41 - 256));
        answers(EdgeTest::none, "feed(0)", x -> x.feed(0), 1);
        answers(EdgeTest::none, "feed(127)", x -> x.feed(127), 1);
        answers(EdgeTest::ten, "feed(0) as the 7th", x -> x.feed(0), 7);
        answers(EdgeTest::ten, "feed(32), the text then", x -> x.feed(32) * 100 + x.text(), 702);

        of("FULL: more than 160.");
        Setup most = x -> feedAll(x, "(6)" + " ".repeat(157));
        answers(x -> feedAll(x, " ".repeat(159)), "feed, the 160th", x -> x.feed(32), 160);
        keeps(most, "feed, the 161st", x -> x.feed('x'), FULL);
        keeps(most, "feed(0), the 161st", x -> x.feed(0), FULL);
        bad(most, "feed(128), the 161st", x -> x.feed(128));
        bad(most, "feed(-1), the 161st", x -> x.feed(-1));
    }

    private static void ends() {
        of("THE TAPE keeps its first n bytes: how many it had.");
        badOutside(EdgeTest::ten, "end", (x, n) -> x.end(n), 0, 6);
        badOutside(EdgeTest::none, "end of none", (x, n) -> x.end(n), 0, 0);
        badOutside(x -> feedAll(x, " ".repeat(160)), "end of 160", (x, n) -> x.end(n), 0, 160);
        keeps(EdgeTest::ten, "end(6) of 6", x -> x.end(6), 6);
        keeps(EdgeTest::none, "end(0) of none", x -> x.end(0), 0);
        answers(EdgeTest::ten, "end(0), count(1) then", x -> x.end(0) * 100 + x.count(1), 600);
        answers(EdgeTest::ten, "end(5), text() then", x -> x.end(5) * 100 + x.text(), 585);
        answers(EdgeTest::ten, "end(2), text() then", x -> x.end(2) * 100 + x.text(), 588);
        answers(x -> feedAll(x, "(12345"), "end(5), text() then", x -> x.end(5) * 100 + x.text(), 585);
        answers(x -> feedAll(x, "(12345"), "end(5), the FAULT then", x -> x.end(5) * 100 + x.text() * 0 + x.fault(), 602);
        answers(x -> feedAll(x, "(1234"), "end(4), feed, weight(0) then", x -> x.end(4) * 0 + x.feed(')') * 0
                + x.text() * 0 + x.weight(0), 123);
        answers(x -> feedAll(x, "(6)))))"), "end(3), text() then", x -> x.end(3) * 100 + x.text(), 701);
        answers(x -> feedAll(x, " ".repeat(160)), "end(159), feed then", x -> x.end(159) * 1000 + x.feed(32), 160160);
    }

    private static void texts() {
        of("THE TAPE (empty then) tells THE TREE: how many NODES; -10 less the place of its FAULT: "
                + "that which was there stays.");
        answers(EdgeTest::ten, "text() of (4(5)), count(1) then", x -> x.text() * 100 + x.count(1), 200);
        answers(EdgeTest::ten, "text() of nothing", x -> x.end(0) * 100 + x.text(), 600);
        fault("x", 0, 1);
        fault("(5)x", 3, 1);
        fault("(1(2)(3)(4)(5)(6)(7)(8)(9)(10)(11)(12)", 38, 2);

        of("The FAULT of the latest text(); 0.");
        answers(EdgeTest::none, "fault() at first", x -> x.fault(), 0);
        keeps(EdgeTest::ten, "fault()", x -> x.fault(), 1);
        answers(EdgeTest::ten, "fault() behind a text() that is taken", x -> x.text() * 100 + x.fault(), 200);
        answers(EdgeTest::ten, "fault() behind one that is empty", x -> x.end(0) * 100 + x.text() + x.fault(), 600);
        answers(EdgeTest::ten, "fault() behind feeds", x -> x.feed(')') * 100 + x.fault(), 701);
        answers(EdgeTest::ten, "fault() behind another one", x -> x.feed(')') * 1000 + x.text() * 10 + x.fault(),
                7000 - 160 + 2);
    }

    // ---- the row

    private static void sizes() {
        of("How many: 0 NODES, 1 NODES without children, 2 the greatest DEPTH (NONE: no NODES), 3 PLACES, 4 BLOCKS. BAD.");
        badOutside(EdgeTest::ten, "size", (x, what) -> x.size(what), 0, 4);
        badOutside(EdgeTest::none, "size of none", (x, what) -> x.size(what), 0, 4);
        list(EdgeTest::ten, "size", (x, what) -> x.size(what), 0, 10, 5, 4, 20, 2);
        list(EdgeTest::bare, "size of none", (x, what) -> x.size(what), 0, 0, 0, NONE, 0, 0);
        list(x -> x.plant(0), "size of one", (x, what) -> x.size(what), 0, 1, 1, 0, 2, 1);
        list(EdgeTest::full, "size of 64", (x, what) -> x.size(what), 0, 64, 63, 1, 128, 8);
        list(told(chain(64)), "size of a chain", (x, what) -> x.size(what), 0, 64, 1, 63, 128, 8);
    }

    private static void bitsAndExcess() {
        of("1: ( at a PLACE; 0: ) . BAD.");
        badOutside(EdgeTest::ten, "bit", (x, p) -> x.bit(p), 0, 19);
        badOutside(EdgeTest::bare, "bit of none", (x, p) -> x.bit(p), 0, -1);
        badOutside(EdgeTest::full, "bit of 64", (x, p) -> x.bit(p), 0, 127);
        keeps(EdgeTest::ten, "bit(0)", x -> x.bit(0), 1);
        keeps(EdgeTest::ten, "bit(19)", x -> x.bit(19), 0);
        list(EdgeTest::full, "bit of 64", (x, p) -> x.bit(p), 124, 0, 1, 0, 0);

        of("EXCESS at p (0 to PLACES). BAD.");
        badOutside(EdgeTest::ten, "excess", (x, p) -> x.excess(p), 0, 20);
        badOutside(EdgeTest::bare, "excess of none", (x, p) -> x.excess(p), 0, 0);
        badOutside(EdgeTest::full, "excess of 64", (x, p) -> x.excess(p), 0, 128);
        list(EdgeTest::bare, "excess of none", (x, p) -> x.excess(p), 0, 0);
        list(EdgeTest::ten, "excess", (x, p) -> x.excess(p), 18, 2, 1, 0);
        list(told(chain(64)), "excess of a chain", (x, p) -> x.excess(p), 63, 63, 64, 63);
        list(told(chain(64)), "excess of a chain", (x, p) -> x.excess(p), 126, 2, 1, 0);
    }

    private static void ranksAndSelects() {
        of("Of the first p PLACES (0 to PLACES): how many are ( (what 0), ) (1), ( with ) right behind it, "
                + "both of the first p (2). BAD.");
        for (int what = 0; what < 3; what++) {
            int w = what;
            badOutside(EdgeTest::ten, "rank(.., " + w + ")", (x, p) -> x.rank(p, w), 0, 20);
            badOutside(EdgeTest::bare, "rank(.., " + w + ") of none", (x, p) -> x.rank(p, w), 0, 0);
            keeps(EdgeTest::bare, "rank(0, " + w + ") of none", x -> x.rank(0, w), 0);
            keeps(EdgeTest::ten, "rank(0, " + w + ")", x -> x.rank(0, w), 0);
        }
        badOutside(EdgeTest::ten, "rank(20, ..)", (x, what) -> x.rank(20, what), 0, 2);
        list(EdgeTest::ten, "rank(20, ..)", (x, what) -> x.rank(20, what), 0, 10, 10, 5);
        list(EdgeTest::full, "rank(128, ..)", (x, what) -> x.rank(128, what), 0, 64, 64, 63);
        list(told("(())"), "rank(.., 2), its ) not yet, then", (x, p) -> x.rank(p, 2), 0, 0, 0, 0, 1, 1);
        list(EdgeTest::full, "rank(.., 2) from one long to the other", (x, p) -> x.rank(p, 2), 62, 30, 31, 31, 32, 32);
        list(told(chain(64)), "rank(.., 2) of a chain", (x, p) -> x.rank(p, 2), 63, 0, 0, 1, 1);

        of("BAD: k below 0, what; NONE: there are not so many.");
        int[] many = {10, 10, 5};
        for (int what = 0; what < 3; what++) {
            int w = what;
            badBelow0(EdgeTest::ten, "select(.., " + w + ")", (x, k) -> x.select(k, w));
            badBelow0(EdgeTest::bare, "select(.., " + w + ") of none", (x, k) -> x.select(k, w));
            keeps(EdgeTest::ten, "select of one too many, " + w, x -> x.select(many[w], w), NONE);
            keeps(EdgeTest::ten, "select(MOST, " + w + ")", x -> x.select(MOST, w), NONE);
            keeps(EdgeTest::bare, "select(0, " + w + ") of none", x -> x.select(0, w), NONE);
        }
        badOutside(EdgeTest::ten, "select(0, ..)", (x, what) -> x.select(0, what), 0, 2);
        badOutside(EdgeTest::ten, "select(MOST, ..)", (x, what) -> x.select(MOST, what), 0, 2);
        list(EdgeTest::ten, "select(.., 0)", (x, k) -> x.select(k, 0), 8, 12, 16, NONE);
        list(EdgeTest::ten, "select(.., 1)", (x, k) -> x.select(k, 1), 8, 18, 19, NONE);
        list(EdgeTest::ten, "select(.., 2)", (x, k) -> x.select(k, 2), 0, 2, 4, 7, 12, 16, NONE);
        list(EdgeTest::full, "select(.., 0) of 64", (x, k) -> x.select(k, 0), 62, 123, 125, NONE);
        list(EdgeTest::full, "select(.., 1) of 64", (x, k) -> x.select(k, 1), 62, 126, 127, NONE);
        list(EdgeTest::full, "select(.., 2) of 64", (x, k) -> x.select(k, 2), 61, 123, 125, NONE);
        for (int n : new int[] {1, 8, 31, 32, 33, 63, 64}) {
            list(told(chain(n)), "select(.., 0) of " + n, (x, k) -> x.select(k, 0), n - 1, n - 1, NONE, NONE);
            list(told(chain(n)), "select(.., 1) of " + n, (x, k) -> x.select(k, 1), n - 1, 2 * n - 1, NONE, NONE);
        }
        list(told(chain(64)), "select(.., 2) of a chain", (x, k) -> x.select(k, 2), 0, 63, NONE);
        list(told(chain(64)), "select(.., 1) of a chain", (x, k) -> x.select(k, 1), 0, 64);
    }

    private static void searches() {
        of("The least q above p (0 to PLACES) at which EXCESS is d. BAD: p; NONE: none.");
        badOutside(EdgeTest::ten, "forward(.., 0)", (x, p) -> x.forward(p, 0), 0, 20);
        badOutside(EdgeTest::ten, "forward(.., MOST)", (x, p) -> x.forward(p, MOST), 0, 20);
        badOutside(EdgeTest::bare, "forward(.., 0) of none", (x, p) -> x.forward(p, 0), 0, 0);
        keeps(EdgeTest::bare, "forward(0, 0) of none", x -> x.forward(0, 0), NONE);
        keeps(EdgeTest::ten, "forward(0, 0): above p", x -> x.forward(0, 0), 20);
        keeps(EdgeTest::ten, "forward(19, 0): the last", x -> x.forward(19, 0), 20);
        keeps(EdgeTest::ten, "forward(20, 0): none above", x -> x.forward(20, 0), NONE);
        keeps(EdgeTest::ten, "forward(0, 5): the greatest", x -> x.forward(0, 5), 13);
        for (int d : new int[] {6, -1, FEWEST, FEWEST + 1, FEWEST + 5, MOST, MOST - 1, MOST - 5}) {
            for (int p : new int[] {0, 1, 13, 16, 20}) {
                keeps(EdgeTest::ten, "forward(" + p + ", " + d + ")", x -> x.forward(p, d), NONE);
            }
        }
        list(told(chain(64)), "forward(64, ..) of a chain", (x, d) -> x.forward(64, d), 62, 66, 65, NONE);
        list(told(chain(64)), "forward(.., 0) of a chain", (x, p) -> x.forward(p, 0), 126, 128, 128, NONE);

        of("The greatest q below p (0 to PLACES) at which EXCESS is d. BAD: p; NONE: none.");
        badOutside(EdgeTest::ten, "backward(.., 0)", (x, p) -> x.backward(p, 0), 0, 20);
        badOutside(EdgeTest::ten, "backward(.., MOST)", (x, p) -> x.backward(p, MOST), 0, 20);
        badOutside(EdgeTest::bare, "backward(.., 0) of none", (x, p) -> x.backward(p, 0), 0, 0);
        keeps(EdgeTest::bare, "backward(0, 0) of none", x -> x.backward(0, 0), NONE);
        keeps(EdgeTest::ten, "backward(20, 0): below p", x -> x.backward(20, 0), 0);
        keeps(EdgeTest::ten, "backward(1, 0): the first", x -> x.backward(1, 0), 0);
        keeps(EdgeTest::ten, "backward(0, 0): none below", x -> x.backward(0, 0), NONE);
        keeps(EdgeTest::ten, "backward(20, 5): the greatest", x -> x.backward(20, 5), 13);
        for (int d : new int[] {6, -1, FEWEST, FEWEST + 1, FEWEST + 5, MOST, MOST - 1, MOST - 5}) {
            for (int p : new int[] {0, 1, 13, 16, 17, 20}) {
                keeps(EdgeTest::ten, "backward(" + p + ", " + d + ")", x -> x.backward(p, d), NONE);
            }
        }
        list(told(chain(64)), "backward(64, ..) of a chain", (x, d) -> x.backward(64, d), 62, 62, 63, NONE);
        list(told(chain(64)), "backward(.., 0) of a chain", (x, p) -> x.backward(p, 0), 0, NONE, 0, 0);

        of("The PLACE of the partner of that at a PLACE. BAD.");
        badOutside(EdgeTest::ten, "match", (x, p) -> x.match(p), 0, 19);
        badOutside(EdgeTest::bare, "match of none", (x, p) -> x.match(p), 0, -1);
        badOutside(EdgeTest::full, "match of 64", (x, p) -> x.match(p), 0, 127);
        list(EdgeTest::ten, "match", (x, p) -> x.match(p), 18, 9, 0);
        list(EdgeTest::full, "match of 64", (x, p) -> x.match(p), 125, 126, 125, 0);
        list(x -> x.plant(0), "match of one", (x, p) -> x.match(p), 0, 1, 0, BAD);
    }

    private static void leastsAndBlocks() {
        of("Of i to j (0 to PLACES, i no more than j): the least EXCESS at any (what 0), the first at which it is (1), "
                + "how many they are (2), the greatest EXCESS (3). BAD.");
        for (int what = 0; what < 4; what++) {
            int w = what;
            badOutside(EdgeTest::ten, "least(.., 20, " + w + ")", (x, i) -> x.least(i, 20, w), 0, 20);
            badOutside(EdgeTest::ten, "least(0, .., " + w + ")", (x, j) -> x.least(0, j, w), 0, 20);
            bad(EdgeTest::ten, "least(21, 21, " + w + ")", x -> x.least(21, 21, w));
            bad(EdgeTest::ten, "least(-1, -1, " + w + ")", x -> x.least(-1, -1, w));
            bad(EdgeTest::ten, "least(8, 7, " + w + ")", x -> x.least(8, 7, w));
            bad(EdgeTest::ten, "least(20, 0, " + w + ")", x -> x.least(20, 0, w));
            badOutside(EdgeTest::bare, "least(0, .., " + w + ") of none", (x, j) -> x.least(0, j, w), 0, 0);
        }
        badOutside(EdgeTest::ten, "least(0, 20, ..)", (x, what) -> x.least(0, 20, what), 0, 3);
        list(EdgeTest::bare, "least(0, 0, ..) of none", (x, what) -> x.least(0, 0, what), 0, 0, 0, 1, 0);
        list(EdgeTest::ten, "least(0, 0, ..)", (x, what) -> x.least(0, 0, what), 0, 0, 0, 1, 0);
        list(EdgeTest::ten, "least(20, 20, ..)", (x, what) -> x.least(20, 20, what), 0, 0, 20, 1, 0);
        list(EdgeTest::ten, "least(0, 20, ..)", (x, what) -> x.least(0, 20, what), 0, 0, 0, 2, 5);
        list(EdgeTest::ten, "least(13, 14, ..)", (x, what) -> x.least(13, 14, what), 0, 4, 14, 1, 5);
        list(told("(()())"), "least(1, 2, ..), not 3", (x, what) -> x.least(1, 2, what), 0, 1, 1, 1, 2);
        list(told("(()())"), "least(2, 3, ..), not 1", (x, what) -> x.least(2, 3, what), 0, 1, 3, 1, 2);
        list(EdgeTest::full, "least(0, 128, ..) of 64", (x, what) -> x.least(0, 128, what), 0, 0, 0, 2, 2);
        list(EdgeTest::full, "least(1, 127, ..) of 64", (x, what) -> x.least(1, 127, what), 0, 1, 1, 64, 2);
        list(told(chain(64)), "least(0, 128, ..) of a chain", (x, what) -> x.least(0, 128, what), 0, 0, 0, 2, 64);

        of("Of a BLOCK: by how much EXCESS is more behind it than ahead of it (what 0), the least it is more behind "
                + "any of its PLACES than ahead of it (1), the greatest (2), each 100 more. BAD.");
        badOutside(EdgeTest::ten, "block(.., 0)", (x, b) -> x.block(b, 0), 0, 1);
        badOutside(EdgeTest::bare, "block(.., 0) of none", (x, b) -> x.block(b, 0), 0, -1);
        badOutside(EdgeTest::full, "block(.., 0) of 64", (x, b) -> x.block(b, 0), 0, 7);
        badOutside(EdgeTest::ten, "block(1, ..)", (x, what) -> x.block(1, what), 0, 2);
        list(EdgeTest::ten, "block(1, ..)", (x, what) -> x.block(1, what), 0, 98, 98, 101);
        list(x -> x.plant(0), "block(0, ..) of one", (x, what) -> x.block(0, what), 0, 100, 100, 101);
        list(told(chain(64)), "block(3, ..) of a chain", (x, what) -> x.block(3, what), 0, 116, 101, 116);
        list(told(chain(64)), "block(4, ..) of a chain", (x, what) -> x.block(4, what), 0, 84, 84, 99);
        list(EdgeTest::full, "block(7, ..) of 64", (x, what) -> x.block(7, what), 0, 98, 98, 100);
    }

    // ---- nodes

    private static void nodesThemselves() {
        of("3 its parent, 4 its first child, 5 its last one, 6 the next child of its parent, 7 the one before (3 to 7: NONE)");
        list(x -> x.plant(0), "node(0, ..) of one", (x, what) -> x.node(0, what), 3, NONE, NONE, NONE, NONE, NONE);
        keeps(EdgeTest::ten, "node(0, 3)", x -> x.node(0, 3), NONE);
        keeps(EdgeTest::ten, "node(9, 3)", x -> x.node(9, 3), 5);
        keeps(EdgeTest::ten, "node(4, 4)", x -> x.node(4, 4), NONE);
        keeps(EdgeTest::ten, "node(6, 4)", x -> x.node(6, 4), 7);
        keeps(EdgeTest::ten, "node(9, 5)", x -> x.node(9, 5), NONE);
        keeps(EdgeTest::ten, "node(6, 5)", x -> x.node(6, 5), 7);
        keeps(EdgeTest::ten, "node(5, 6)", x -> x.node(5, 6), NONE);
        keeps(EdgeTest::ten, "node(4, 6)", x -> x.node(4, 6), 5);
        keeps(EdgeTest::ten, "node(1, 7)", x -> x.node(1, 7), NONE);
        keeps(EdgeTest::ten, "node(4, 7)", x -> x.node(4, 7), 1);
        list(EdgeTest::full, "node(63, ..) of 64", (x, what) -> x.node(63, what), 3, 0, NONE, NONE, NONE, 62);
        list(told("(" + star(62) + ")"), "node(0, ..) of 64, ( at PLACE 64", (x, what) -> x.node(0, what), 3,
                NONE, 1, 1, NONE, NONE);

        of("13 which child of its parent it is (0 on; the root 0). BAD.");
        list(EdgeTest::ten, "node(.., 13)", (x, v) -> x.node(v, 13), 0, 0, 0, 0, 1, 1, 2, 0, 0, 0, 1);
        for (int what = 0; what < 14; what++) {
            int w = what;
            badOutside(EdgeTest::ten, "node(.., " + w + ")", (x, v) -> x.node(v, w), 0, 9);
            bad(EdgeTest::bare, "node(0, " + w + ") of none", x -> x.node(0, w));
            bad(EdgeTest::full, "node(64, " + w + ") of 64", x -> x.node(64, w));
        }
        badOutside(EdgeTest::ten, "node(0, ..)", (x, what) -> x.node(0, what), 0, 13);
        list(x -> x.plant(0), "node(0, ..) of one", (x, what) -> x.node(0, what), 0, 0, 1, 0, NONE, NONE, NONE, NONE,
                NONE, 0, 1, 1, 0, 0, 0);
        list(told(chain(64)), "node(0, ..) of a chain", (x, what) -> x.node(0, what), 8, 1, 64, 1, 63, 63, 0);
        list(told(chain(64)), "node(63, ..) of a chain", (x, what) -> x.node(63, what), 8, 0, 1, 1, 0, 0, 0);
        list(EdgeTest::full, "node(0, ..) of 64", (x, what) -> x.node(0, what), 8, 63, 64, 63, 1, 63, 0);
        list(EdgeTest::full, "node(63, ..) of 64", (x, what) -> x.node(63, what), 8, 0, 1, 1, 0, 62, 62);
    }

    private static void nodesUpAndDown() {
        of("The i-th child (0 on) of a NODE. BAD: v, i below 0; NONE: it has not so many.");
        badOutside(EdgeTest::ten, "child(.., 0)", (x, v) -> x.child(v, 0), 0, 9);
        badOutside(EdgeTest::ten, "child(.., MOST)", (x, v) -> x.child(v, MOST), 0, 9);
        badBelow0(EdgeTest::ten, "child(0, ..)", (x, i) -> x.child(0, i));
        badBelow0(EdgeTest::ten, "child(2, ..)", (x, i) -> x.child(2, i));
        bad(EdgeTest::bare, "child(0, 0) of none", x -> x.child(0, 0));
        list(EdgeTest::ten, "child(0, ..)", (x, i) -> x.child(0, i), 0, 1, 4, 5, NONE, NONE);
        keeps(EdgeTest::ten, "child(0, MOST)", x -> x.child(0, MOST), NONE);
        keeps(EdgeTest::ten, "child(9, 0)", x -> x.child(9, 0), NONE);
        list(EdgeTest::full, "child(0, ..) of 64", (x, i) -> x.child(0, i), 61, 62, 63, NONE);

        of("The NODE with number i from below. BAD.");
        badOutside(EdgeTest::ten, "below", (x, i) -> x.below(i), 0, 9);
        badOutside(EdgeTest::bare, "below of none", (x, i) -> x.below(i), 0, -1);
        badOutside(EdgeTest::full, "below of 64", (x, i) -> x.below(i), 0, 63);
        list(EdgeTest::ten, "below", (x, i) -> x.below(i), 0, 2, 3, 1, 4, 8, 7, 6, 9, 5, 0);
        list(EdgeTest::full, "below of 64", (x, i) -> x.below(i), 62, 63, 0);
        list(told(chain(64)), "below of a chain", (x, i) -> x.below(i), 0, 63, 62);

        of("The NODE k above a NODE (0: itself). BAD: v, k below 0; NONE: it has not so many above it.");
        badOutside(EdgeTest::ten, "up(.., 0)", (x, v) -> x.up(v, 0), 0, 9);
        badOutside(EdgeTest::ten, "up(.., MOST)", (x, v) -> x.up(v, MOST), 0, 9);
        badBelow0(EdgeTest::ten, "up(8, ..)", (x, k) -> x.up(8, k));
        bad(EdgeTest::bare, "up(0, 0) of none", x -> x.up(0, 0));
        list(EdgeTest::ten, "up(8, ..)", (x, k) -> x.up(8, k), 0, 8, 7, 6, 5, 0, NONE);
        list(EdgeTest::ten, "up(0, ..)", (x, k) -> x.up(0, k), 0, 0, NONE);
        keeps(EdgeTest::ten, "up(8, MOST)", x -> x.up(8, MOST), NONE);
        list(told(chain(64)), "up(63, ..) of a chain", (x, k) -> x.up(63, k), 62, 1, 0, NONE);
    }

    private static void nodesTogether() {
        of("The deepest NODE that is above both (each counts as above itself). BAD.");
        badOutside(EdgeTest::ten, "meet(.., 0)", (x, u) -> x.meet(u, 0), 0, 9);
        badOutside(EdgeTest::ten, "meet(9, ..)", (x, v) -> x.meet(9, v), 0, 9);
        bad(EdgeTest::bare, "meet(0, 0) of none", x -> x.meet(0, 0));
        list(EdgeTest::ten, "meet(v, v)", (x, v) -> x.meet(v, v), 0, 0, 1, 2, 3, 4, 5, 6, 7, 8, 9);
        list(EdgeTest::ten, "meet(8, ..)", (x, v) -> x.meet(8, v), 0, 0, 0, 0, 0, 0, 5, 6, 7, 8, 5);
        keeps(EdgeTest::full, "meet(62, 63) of 64", x -> x.meet(62, 63), 0);
        keeps(told(chain(64)), "meet(63, 62) of a chain", x -> x.meet(63, 62), 62);

        of("How many steps it is from one NODE to the other, each to the parent or a child. BAD.");
        badOutside(EdgeTest::ten, "way(.., 0)", (x, u) -> x.way(u, 0), 0, 9);
        badOutside(EdgeTest::ten, "way(9, ..)", (x, v) -> x.way(9, v), 0, 9);
        bad(EdgeTest::bare, "way(0, 0) of none", x -> x.way(0, 0));
        list(EdgeTest::ten, "way(v, v)", (x, v) -> x.way(v, v), 0, 0, 0, 0, 0, 0, 0, 0, 0, 0, 0);
        keeps(told(chain(64)), "way(63, 0) of a chain", x -> x.way(63, 0), 63);
        keeps(told("(" + chain(31) + chain(32) + ")"), "way(31, 63)", x -> x.way(31, 63), 63);

        of("Of DEPTH d: the first NODE (what 0; NONE), the last (1; NONE), how many there are (2). BAD: d below 0, what.");
        for (int what = 0; what < 3; what++) {
            int w = what;
            badBelow0(EdgeTest::ten, "level(.., " + w + ")", (x, d) -> x.level(d, w));
            badBelow0(EdgeTest::bare, "level(.., " + w + ") of none", (x, d) -> x.level(d, w));
            keeps(EdgeTest::ten, "level(5, " + w + ")", x -> x.level(5, w), w == 2 ? 0 : NONE);
            keeps(EdgeTest::ten, "level(MOST, " + w + ")", x -> x.level(MOST, w), w == 2 ? 0 : NONE);
            keeps(EdgeTest::ten, "level(MOST - 1, " + w + ")", x -> x.level(MOST - 1, w), w == 2 ? 0 : NONE);
            keeps(EdgeTest::bare, "level(0, " + w + ") of none", x -> x.level(0, w), w == 2 ? 0 : NONE);
        }
        badOutside(EdgeTest::ten, "level(0, ..)", (x, what) -> x.level(0, what), 0, 2);
        list(EdgeTest::ten, "level(0, ..)", (x, what) -> x.level(0, what), 0, 0, 0, 1);
        list(EdgeTest::ten, "level(4, ..)", (x, what) -> x.level(4, what), 0, 8, 8, 1);
        list(EdgeTest::full, "level(1, ..) of 64", (x, what) -> x.level(1, what), 0, 1, 63, 63);
        list(told("(" + star(62) + ")"), "level(0, ..) of 64, ( at PLACE 64", (x, what) -> x.level(0, what), 0, 0, 0, 1);
        list(told("(" + star(62) + ")"), "level(2, ..) of 64, ( at PLACE 64", (x, what) -> x.level(2, what), 0, 2, 63, 62);
        list(told(chain(64)), "level(63, ..) of a chain", (x, what) -> x.level(63, what), 0, 63, 63, 1);

        of("The next NODE by number with the DEPTH of a NODE (what 0), the one before (1). BAD; NONE.");
        badOutside(EdgeTest::ten, "beside(.., 0)", (x, v) -> x.beside(v, 0), 0, 9);
        badOutside(EdgeTest::ten, "beside(.., 1)", (x, v) -> x.beside(v, 1), 0, 9);
        badOutside(EdgeTest::ten, "beside(1, ..)", (x, what) -> x.beside(1, what), 0, 1);
        bad(EdgeTest::bare, "beside(0, 0) of none", x -> x.beside(0, 0));
        list(EdgeTest::ten, "beside(.., 0)", (x, v) -> x.beside(v, 0), 0, NONE, 4, 3, 6, 5, NONE, 9, NONE, NONE, NONE);
        list(EdgeTest::ten, "beside(.., 1)", (x, v) -> x.beside(v, 1), 0, NONE, NONE, NONE, 2, 1, 4, 3, NONE, NONE, 6);
        list(EdgeTest::full, "beside(.., 0) of 64", (x, v) -> x.beside(v, 0), 61, 62, 63, NONE);
        list(EdgeTest::full, "beside(.., 1) of 64", (x, v) -> x.beside(v, 1), 0, NONE, NONE, 1);

        of("The first NODE of greatest DEPTH of those below a NODE, it too. BAD.");
        badOutside(EdgeTest::ten, "deepest", (x, v) -> x.deepest(v), 0, 9);
        bad(EdgeTest::bare, "deepest(0) of none", x -> x.deepest(0));
        keeps(EdgeTest::ten, "deepest(9): it too", x -> x.deepest(9), 9);
        keeps(EdgeTest::ten, "deepest(1): the first", x -> x.deepest(1), 2);
        keeps(EdgeTest::full, "deepest(0) of 64", x -> x.deepest(0), 1);
        keeps(told(chain(64)), "deepest(0) of a chain", x -> x.deepest(0), 63);

        of("Whether the ROWS of two NODES are alike (1, 0). BAD.");
        badOutside(EdgeTest::ten, "alike(.., 0)", (x, u) -> x.alike(u, 0), 0, 9);
        badOutside(EdgeTest::ten, "alike(9, ..)", (x, v) -> x.alike(9, v), 0, 9);
        bad(EdgeTest::bare, "alike(0, 0) of none", x -> x.alike(0, 0));
        list(EdgeTest::ten, "alike(v, v)", (x, v) -> x.alike(v, v), 0, 1, 1, 1, 1, 1, 1, 1, 1, 1, 1);
        keeps(EdgeTest::ten, "alike(2, 9): WEIGHTS do not matter", x -> x.alike(2, 9), 1);
        keeps(EdgeTest::ten, "alike(1, 6): as long", x -> x.alike(1, 6), 0);
        keeps(EdgeTest::ten, "alike(0, 9): not as long", x -> x.alike(0, 9), 0);
        keeps(EdgeTest::ten, "alike(8, 7): not as long", x -> x.alike(8, 7), 0);
        keeps(told(chain(64)), "alike(0, 1) of a chain: not as long", x -> x.alike(0, 1), 0);
        keeps(told("(" + chain(31) + chain(31) + ")"), "alike(1, 32) of 31", x -> x.alike(1, 32), 1);
        keeps(told("(" + chain(31) + star(30) + ")"), "alike(1, 32) of 31", x -> x.alike(1, 32), 0);
    }

    // ---- weights

    private static void weights() {
        of("WEIGHT of a NODE. BAD.");
        badOutside(EdgeTest::ten, "weight", (x, v) -> x.weight(v), 0, 9);
        badOutside(EdgeTest::bare, "weight of none", (x, v) -> x.weight(v), 0, -1);
        badOutside(EdgeTest::full, "weight of 64", (x, v) -> x.weight(v), 0, 63);
        keeps(EdgeTest::full, "weight(63) of 64", x -> x.weight(63), 6);
        keeps(EdgeTest::ten, "weight(5)", x -> x.weight(5), MOST);

        of("WEIGHT of a NODE becomes w (0 on): what it was. BAD.");
        badOutside(EdgeTest::ten, "set(.., 1)", (x, v) -> x.set(v, 1), 0, 9);
        badOutside(EdgeTest::bare, "set(.., 1) of none", (x, v) -> x.set(v, 1), 0, -1);
        badOutside(EdgeTest::full, "set(.., 1) of 64", (x, v) -> x.set(v, 1), 0, 63);
        badBelow0(EdgeTest::ten, "set(9, ..)", (x, w) -> x.set(9, w));
        answers(EdgeTest::ten, "set(9, 0), weight(9) then", x -> x.set(9, 0) * 100 + x.weight(9), 800);
        answers(EdgeTest::ten, "set(9, MOST), weight(9) then", x -> x.set(9, MOST) - 8 + x.weight(9), MOST);
        keeps(EdgeTest::ten, "set(5, MOST): what it was", x -> x.set(5, MOST), MOST);

        of("WEIGHTS of all NODES below a NODE, it too, summed (what 0), of all above it, it too (1). BAD; OVER.");
        badOutside(EdgeTest::ten, "sum(.., 0)", (x, v) -> x.sum(v, 0), 0, 9);
        badOutside(EdgeTest::ten, "sum(.., 1)", (x, v) -> x.sum(v, 1), 0, 9);
        badOutside(EdgeTest::ten, "sum(0, ..)", (x, what) -> x.sum(0, what), 0, 1);
        bad(EdgeTest::bare, "sum(0, 0) of none", x -> x.sum(0, 0));
        list(EdgeTest::ten, "sum(.., 0)", (x, v) -> x.sum(v, 0), 0, OVER, 14, 2, 9, 4, OVER, 14, 7, 6, 8);
        list(EdgeTest::ten, "sum(.., 1)", (x, v) -> x.sum(v, 1), 0, 5, 8, 10, 17, 9, OVER, OVER, OVER, OVER, OVER);
        Setup two = told("(1(0))");
        answers(two, "sum of MOST and 0", x -> x.set(1, MOST) + x.set(0, 0) - 1 + x.sum(0, 0), MOST);
        answers(two, "sum of MOST and 1", x -> x.set(1, MOST) + x.sum(0, 0), OVER);
        answers(two, "sum above, MOST and 0", x -> x.set(1, MOST) + x.set(0, 0) - 1 + x.sum(1, 1), MOST);
        answers(two, "sum above, MOST and 1", x -> x.set(1, MOST) + x.sum(1, 1), OVER);
        answers(x -> {
            tell(x, chain(64));
            x.set(0, MOST);
        }, "sum(63, 1) of a chain, the root too", x -> x.sum(63, 1), MOST);
        answers(x -> {
            tell(x, chain(64));
            x.set(63, MOST);
        }, "sum(0, 0) of a chain, the last too", x -> x.sum(0, 0), MOST);
        answers(two, "sum of MOST and MOST", x -> x.set(1, MOST) + x.set(0, MOST) - 1 + x.sum(0, 0), OVER);
        ExcessTree heavy = made(EdgeTest::full);
        for (int v = 0; v < 64; v++) {
            heavy.set(v, MOST);
        }
        due("sum of 64 times MOST", heavy.sum(0, 0), OVER);
        due("sum of one", heavy.sum(63, 0), MOST);
        heavy.set(0, 2);
        heavy.set(1, MOST);
        for (int v = 3; v < 64; v++) {
            heavy.set(v, 0);
        }
        due("sum of 2, MOST and MOST: 2 to the 32 wraps around", heavy.sum(0, 0), OVER);

        of("The NODE of greatest WEIGHT of those below a NODE, it too, of several the first. BAD.");
        badOutside(EdgeTest::ten, "heaviest", (x, v) -> x.heaviest(v), 0, 9);
        bad(EdgeTest::bare, "heaviest(0) of none", x -> x.heaviest(0));
        list(EdgeTest::ten, "heaviest", (x, v) -> x.heaviest(v), 0, 5, 3, 2, 3, 4, 5, 6, 8, 8, 9);
        keeps(told("(2(3)(1)(3))"), "heaviest of several", x -> x.heaviest(0), 1);
        keeps(told("(3(3)(1)(3))"), "heaviest of several, it too", x -> x.heaviest(0), 0);
        keeps(told("(0(0)(0))"), "heaviest of WEIGHTS 0", x -> x.heaviest(0), 0);
        keeps(told("(1(2(3))(4))"), "heaviest(1), not beside it", x -> x.heaviest(1), 2);
        answers(EdgeTest::full, "heaviest of 64, the last", x -> x.set(63, 9) - 6 + x.heaviest(0), 63);
    }

    // ---- edits

    /** An edit that is taken: its answer, the tree then with true summaries, and that all else stays. */
    private static void edits(Setup setup, String call, Call c, long want, String tree) {
        ExcessTree x = made(setup);
        due(call, c.on(x), want);
        same("the tree behind " + call, treeOf(x), summarised(tree));
        nothingBehind(x, call, tree);
        same("all else behind " + call, allElse(x), allElse(made(setup)));
    }

    /** No sign is found or counted behind the row, where an edit could have left some. */
    private static void nothingBehind(ExcessTree x, String call, String tree) {
        String row = tree.replaceAll("[0-9]", "");
        int nodes = row.length() / 2;
        int pairs = (row.length() - row.replace("()", "").length()) / 2;
        int odd = 0;
        for (int p = 1; p < row.length(); p += 2) {
            odd += row.charAt(p) == '(' ? 1 : 0;
        }
        due("size(0) behind " + call, x.size(0), nodes);
        due("size(1) behind " + call, x.size(1), pairs);
        due("count(3) behind " + call, x.count(3), odd);
        due("select(" + nodes + ", 0) behind " + call, x.select(nodes, 0), NONE);
        due("select(" + nodes + ", 1) behind " + call, x.select(nodes, 1), NONE);
        due("select(" + pairs + ", 2) behind " + call, x.select(pairs, 2), NONE);
    }

    /** A tree as treeOf tells it, with the summaries counted from its letters. */
    private static String summarised(String shape) {
        String row = shape.replaceAll("[0-9]", "");
        StringBuilder s = new StringBuilder(shape);
        for (int from = 0; from < row.length(); from += 16) {
            int e = 0;
            int low = 99;
            int high = -99;
            for (int p = from; p < Math.min(row.length(), from + 16); p++) {
                e += row.charAt(p) == '(' ? 1 : -1;
                low = Math.min(low, e);
                high = Math.max(high, e);
            }
            s.append(' ').append(100 + e).append(' ').append(100 + low).append(' ').append(100 + high);
        }
        return s.toString();
    }

    private static final String TEN = "(5(3(2)(9))(4)(2147483647(7(1(6)))(8)))";
    private static final String FULL_STAR = "(7" + "(0)".repeat(62) + "(6))";

    private static void plants() {
        of("The root comes, WEIGHT w (0 on): 0. BAD; STATE: there are NODES.");
        badBelow0(EdgeTest::bare, "plant", (x, w) -> x.plant(w));
        badBelow0(EdgeTest::ten, "plant where there are NODES", (x, w) -> x.plant(w));
        edits(EdgeTest::bare, "plant(0)", x -> x.plant(0), 0, "(0)");
        edits(EdgeTest::bare, "plant(MOST)", x -> x.plant(MOST), 0, "(2147483647)");
        keeps(EdgeTest::ten, "plant(3)", x -> x.plant(3), STATE);
        keeps(EdgeTest::full, "plant(3) of 64", x -> x.plant(3), STATE);
        keeps(x -> x.plant(1), "plant(3) of one", x -> x.plant(3), STATE);
        edits(x -> x.plant(1), "prune(0), plant(3)", x -> x.prune(0) + x.plant(3), 0, "(3)");
    }

    private static void leaves() {
        of("A NODE without children comes as the i-th child (0 to how many there are) of NODE v, WEIGHT w (0 on): "
                + "its number. BAD; FULL.");
        badOutside(EdgeTest::ten, "leaf(.., 0, 1)", (x, v) -> x.leaf(v, 0, 1), 0, 9);
        badOutside(EdgeTest::bare, "leaf(.., 0, 1) of none", (x, v) -> x.leaf(v, 0, 1), 0, -1);
        badOutside(EdgeTest::ten, "leaf(0, .., 1)", (x, i) -> x.leaf(0, i, 1), 0, 3);
        badOutside(EdgeTest::ten, "leaf(9, .., 1)", (x, i) -> x.leaf(9, i, 1), 0, 0);
        badBelow0(EdgeTest::ten, "leaf(0, 0, ..)", (x, w) -> x.leaf(0, 0, w));
        edits(EdgeTest::ten, "leaf(0, 0, 0)", x -> x.leaf(0, 0, 0), 1, TEN.replace("(5", "(5(0)"));
        edits(EdgeTest::ten, "leaf(0, 3, 1)", x -> x.leaf(0, 3, 1), 10,
                "(5(3(2)(9))(4)(2147483647(7(1(6)))(8))(1))");
        edits(EdgeTest::ten, "leaf(9, 0, MOST)", x -> x.leaf(9, 0, MOST), 10, TEN.replace("(8", "(8(2147483647)"));
        edits(EdgeTest::ten, "leaf(0, 1, 77)", x -> x.leaf(0, 1, 77), 4, TEN.replace("(4", "(77)(4"));
        keeps(EdgeTest::full, "leaf(0, 63, 0), a 65th", x -> x.leaf(0, 63, 0), FULL);
        keeps(EdgeTest::full, "leaf(63, 0, 0), a 65th", x -> x.leaf(63, 0, 0), FULL);
        badOutside(EdgeTest::full, "leaf(0, .., 0), a 65th", (x, i) -> x.leaf(0, i, 0), 0, 63);
        badOutside(EdgeTest::full, "leaf(63, .., 0), a 65th", (x, i) -> x.leaf(63, i, 0), 0, 0);
        Setup less = x -> {
            full(x);
            x.prune(63);
        };
        edits(less, "leaf(0, 62, 6), the 64th", x -> x.leaf(0, 62, 6), 63, FULL_STAR);
    }

    private static void prunesAndFells() {
        of("A NODE without children goes: how many are left. BAD; STATE: it has children.");
        badOutside(EdgeTest::ten, "prune", (x, v) -> x.prune(v), 0, 9);
        badOutside(EdgeTest::bare, "prune of none", (x, v) -> x.prune(v), 0, -1);
        badOutside(EdgeTest::full, "prune of 64", (x, v) -> x.prune(v), 0, 63);
        for (int v : new int[] {0, 1, 5, 6, 7}) {
            keeps(EdgeTest::ten, "prune(" + v + ") with children", x -> x.prune(v), STATE);
        }
        edits(EdgeTest::ten, "prune(9)", x -> x.prune(9), 9, TEN.replace("(8)", ""));
        edits(EdgeTest::ten, "prune(2)", x -> x.prune(2), 9, TEN.replace("(2)", ""));
        edits(EdgeTest::full, "prune(63) of 64", x -> x.prune(63), 63, FULL_STAR.replace("(6)", ""));
        edits(x -> x.plant(1), "prune(0) of one", x -> x.prune(0), 0, "");

        of("A NODE goes with all below it: how many went. BAD.");
        badOutside(EdgeTest::ten, "fell", (x, v) -> x.fell(v), 0, 9);
        badOutside(EdgeTest::bare, "fell of none", (x, v) -> x.fell(v), 0, -1);
        badOutside(EdgeTest::full, "fell of 64", (x, v) -> x.fell(v), 0, 63);
        edits(EdgeTest::ten, "fell(0): the root too", x -> x.fell(0), 10, "");
        edits(EdgeTest::full, "fell(0) of 64", x -> x.fell(0), 64, "");
        edits(EdgeTest::ten, "fell(9)", x -> x.fell(9), 1, TEN.replace("(8)", ""));
        edits(EdgeTest::ten, "fell(6)", x -> x.fell(6), 3, TEN.replace("(7(1(6)))", ""));
        edits(x -> x.plant(1), "fell(0) of one", x -> x.fell(0), 1, "");
        edits(told(chain(64)), "fell(1) of a chain", x -> x.fell(1), 63, "(0)");
    }

    private static void wraps() {
        of("about children i to i and k less 1 of NODE v (k 0 on; i and k no more than how many there are)");
        badOutside(EdgeTest::ten, "wrap(.., 0, 0, 1)", (x, v) -> x.wrap(v, 0, 0, 1), 0, 9);
        badOutside(EdgeTest::bare, "wrap(.., 0, 0, 1) of none", (x, v) -> x.wrap(v, 0, 0, 1), 0, -1);
        badOutside(EdgeTest::ten, "wrap(0, .., 0, 1)", (x, i) -> x.wrap(0, i, 0, 1), 0, 3);
        badOutside(EdgeTest::ten, "wrap(0, .., 1, 1)", (x, i) -> x.wrap(0, i, 1, 1), 0, 2);
        badOutside(EdgeTest::ten, "wrap(0, 0, .., 1)", (x, k) -> x.wrap(0, 0, k, 1), 0, 3);
        badOutside(EdgeTest::ten, "wrap(0, 1, .., 1)", (x, k) -> x.wrap(0, 1, k, 1), 0, 2);
        badOutside(EdgeTest::ten, "wrap(0, 3, .., 1)", (x, k) -> x.wrap(0, 3, k, 1), 0, 0);
        badOutside(EdgeTest::ten, "wrap(9, 0, .., 1)", (x, k) -> x.wrap(9, 0, k, 1), 0, 0);
        badBelow0(EdgeTest::ten, "wrap(0, 0, 1, ..)", (x, w) -> x.wrap(0, 0, 1, w));
        bad(EdgeTest::ten, "wrap(0, MOST, MOST, 1): the sum wraps around", x -> x.wrap(0, MOST, MOST, 1));
        bad(EdgeTest::ten, "wrap(0, 2, MOST, 1): the sum wraps around", x -> x.wrap(0, 2, MOST, 1));
        bad(EdgeTest::ten, "wrap(0, MOST, 2, 1): the sum wraps around", x -> x.wrap(0, MOST, 2, 1));
        bad(EdgeTest::ten, "wrap(0, -1, 2, 1): the sum is within", x -> x.wrap(0, -1, 2, 1));
        bad(EdgeTest::ten, "wrap(0, 4, -1, 1): the sum is within", x -> x.wrap(0, 4, -1, 1));
        edits(EdgeTest::ten, "wrap(0, 0, 0, 0)", x -> x.wrap(0, 0, 0, 0), 1, TEN.replace("(5", "(5(0)"));
        edits(EdgeTest::ten, "wrap(0, 3, 0, 1)", x -> x.wrap(0, 3, 0, 1), 10,
                "(5(3(2)(9))(4)(2147483647(7(1(6)))(8))(1))");
        edits(EdgeTest::ten, "wrap(0, 0, 3, MOST)", x -> x.wrap(0, 0, 3, MOST), 1,
                "(5(2147483647(3(2)(9))(4)(2147483647(7(1(6)))(8))))");
        edits(EdgeTest::ten, "wrap(0, 2, 1, 77)", x -> x.wrap(0, 2, 1, 77), 5,
                "(5(3(2)(9))(4)(77(2147483647(7(1(6)))(8))))");
        edits(EdgeTest::ten, "wrap(0, 1, 1, 77)", x -> x.wrap(0, 1, 1, 77), 4, TEN.replace("(4)", "(77(4))"));
        edits(EdgeTest::ten, "wrap(9, 0, 0, 1)", x -> x.wrap(9, 0, 0, 1), 10, TEN.replace("(8", "(8(1)"));

        of("its number (a child of v, as which they come). BAD; FULL.");
        keeps(EdgeTest::full, "wrap(0, 0, 0, 0), a 65th", x -> x.wrap(0, 0, 0, 0), FULL);
        keeps(EdgeTest::full, "wrap(0, 63, 0, 0), a 65th", x -> x.wrap(0, 63, 0, 0), FULL);
        keeps(EdgeTest::full, "wrap(63, 0, 0, 0), a 65th", x -> x.wrap(63, 0, 0, 0), FULL);
        badOutside(EdgeTest::full, "wrap(0, 0, .., 0), a 65th", (x, k) -> x.wrap(0, 0, k, 0), 0, 63);
        badBelow0(EdgeTest::full, "wrap(0, 0, 0, ..), a 65th", (x, w) -> x.wrap(0, 0, 0, w));
        Setup less = x -> {
            full(x);
            x.prune(1);
        };
        edits(less, "wrap(0, 0, 62, 9), the 64th", x -> x.wrap(0, 0, 62, 9), 1, "(7(9" + "(0)".repeat(61) + "(6)))");
    }

    private static void melts() {
        of("A NODE goes, its children take its place by order: how many are left. BAD; STATE: the root, if it has not "
                + "just one child.");
        badOutside(EdgeTest::ten, "melt", (x, v) -> x.melt(v), 0, 9);
        badOutside(EdgeTest::bare, "melt of none", (x, v) -> x.melt(v), 0, -1);
        badOutside(EdgeTest::full, "melt of 64", (x, v) -> x.melt(v), 0, 63);
        keeps(EdgeTest::ten, "melt(0) with three children", x -> x.melt(0), STATE);
        keeps(told("(1(2)(3))"), "melt(0) with two", x -> x.melt(0), STATE);
        keeps(x -> x.plant(1), "melt(0) without any", x -> x.melt(0), STATE);
        edits(told("(1(2(3)(4)))"), "melt(0) with one", x -> x.melt(0), 3, "(2(3)(4))");
        edits(told("(1(2))"), "melt(0) with one", x -> x.melt(0), 1, "(2)");
        edits(told("(1(2))"), "melt(1) without any", x -> x.melt(1), 1, "(1)");
        edits(EdgeTest::ten, "melt(5)", x -> x.melt(5), 9, "(5(3(2)(9))(4)(7(1(6)))(8))");
        edits(EdgeTest::ten, "melt(9)", x -> x.melt(9), 9, TEN.replace("(8)", ""));
        edits(EdgeTest::full, "melt(63) of 64", x -> x.melt(63), 63, FULL_STAR.replace("(6)", ""));
        edits(told(chain(64)), "melt(0) of a chain", x -> x.melt(0), 63, "(0".repeat(63) + ")".repeat(63));
    }

    private static void grafts() {
        of("comes as the i-th child of NODE u (as that is then: i 0 to how many it has without it): its number then.");
        edits(EdgeTest::ten, "graft(1, 0, 2): last of the same parent", x -> x.graft(1, 0, 2), 7,
                "(5(4)(2147483647(7(1(6)))(8))(3(2)(9)))");
        edits(EdgeTest::ten, "graft(5, 0, 0): first of the same parent", x -> x.graft(5, 0, 0), 1,
                "(5(2147483647(7(1(6)))(8))(3(2)(9))(4))");
        edits(EdgeTest::ten, "graft(4, 0, 1): where it is", x -> x.graft(4, 0, 1), 4, TEN);
        edits(EdgeTest::ten, "graft(1, 9, 0): behind", x -> x.graft(1, 9, 0), 7,
                "(5(4)(2147483647(7(1(6)))(8(3(2)(9)))))");
        edits(EdgeTest::ten, "graft(5, 2, 0): ahead", x -> x.graft(5, 2, 0), 3,
                "(5(3(2(2147483647(7(1(6)))(8)))(9))(4))");
        edits(EdgeTest::ten, "graft(1, 5, 2): as the last", x -> x.graft(1, 5, 2), 7,
                "(5(4)(2147483647(7(1(6)))(8)(3(2)(9))))");
        edits(EdgeTest::ten, "graft(8, 0, 3): to one above", x -> x.graft(8, 0, 3), 9,
                "(5(3(2)(9))(4)(2147483647(7(1))(8))(6))");
        edits(EdgeTest::full, "graft(63, 1, 0) of 64", x -> x.graft(63, 1, 0), 2, "(7(0(6))" + "(0)".repeat(61) + ")");
        edits(EdgeTest::full, "graft(1, 63, 0) of 64", x -> x.graft(1, 63, 0), 63, "(7" + "(0)".repeat(61) + "(6(0)))");

        of("BAD: v, u; STATE: v is the root, or above u (or u itself); BAD: i.");
        badOutside(EdgeTest::ten, "graft(.., 0, 0)", (x, v) -> x.graft(v, 0, 0), 0, 9);
        badOutside(EdgeTest::ten, "graft(1, .., 0)", (x, u) -> x.graft(1, u, 0), 0, 9);
        badOutside(EdgeTest::ten, "graft(0, .., 0): BAD ahead of STATE", (x, u) -> x.graft(0, u, 0), 0, 9);
        bad(EdgeTest::bare, "graft(0, 0, 0) of none", x -> x.graft(0, 0, 0));
        badOutside(EdgeTest::ten, "graft(4, 0, ..), its own parent", (x, i) -> x.graft(4, 0, i), 0, 2);
        badOutside(EdgeTest::ten, "graft(4, 5, ..), another one", (x, i) -> x.graft(4, 5, i), 0, 2);
        badOutside(EdgeTest::ten, "graft(4, 9, ..), one without children", (x, i) -> x.graft(4, 9, i), 0, 0);
        badOutside(EdgeTest::ten, "graft(8, 5, ..), one farther above", (x, i) -> x.graft(8, 5, i), 0, 2);
        for (int i : new int[] {0, -1, 99, MOST, FEWEST}) {
            keeps(EdgeTest::ten, "graft(0, 9, " + i + "): the root", x -> x.graft(0, 9, i), STATE);
            keeps(EdgeTest::ten, "graft(0, 0, " + i + "): the root, itself", x -> x.graft(0, 0, i), STATE);
            keeps(EdgeTest::ten, "graft(5, 5, " + i + "): itself", x -> x.graft(5, 5, i), STATE);
            keeps(EdgeTest::ten, "graft(9, 9, " + i + "): itself", x -> x.graft(9, 9, i), STATE);
            keeps(EdgeTest::ten, "graft(5, 6, " + i + "): above it", x -> x.graft(5, 6, i), STATE);
            keeps(EdgeTest::ten, "graft(5, 9, " + i + "): above it", x -> x.graft(5, 9, i), STATE);
            keeps(EdgeTest::ten, "graft(6, 8, " + i + "): far above it", x -> x.graft(6, 8, i), STATE);
        }
        answers(EdgeTest::ten, "graft(1, 4, 0): the one right behind is not below", x -> x.graft(1, 4, 0), 2);
    }

    /** A node's children as texts; it is the root, or the only child of one. Weights are numbers at first. */
    private static String under(int parent, List<String> children) {
        return (parent == 0 ? "(0" : "(0(1") + String.join("", children) + ")".repeat(parent + 1);
    }

    private static int nodesIn(List<String> children) {
        return String.join("", children).replaceAll("[^(]", "").length();
    }

    /** A chain of so many nodes, or, below 0, a star of so many. */
    private static List<String> childrenOfSizes(int parent, int... sizes) {
        List<String> children = new ArrayList<>();
        int v = parent + 1;
        for (int size : sizes) {
            String shape = size < 0 ? star(-size - 1) : chain(size);
            StringBuilder s = new StringBuilder();
            for (char c : shape.toCharArray()) {
                s.append(c == '(' ? "(" + v++ : ")");
            }
            children.add(s.toString());
        }
        return children;
    }

    /** An edit of a node's children: the same done to their texts. */
    private static void editsOfChildren(int parent, List<String> before, String call, Call c, long want, List<String> after) {
        ExcessTree x = new ExcessTree();
        tell(x, under(parent, before).replaceAll("[0-9]", ""));
        int nodes = x.size(0);
        for (int v = 0; v < nodes; v++) {
            x.set(v, v);
        }
        String told = call + " of " + under(parent, before);
        due(told, c.on(x), want);
        same("the tree behind " + told, treeOf(x), summarised(under(parent, after)));
        nothingBehind(x, told, under(parent, after));
    }

    private static void editsEverywhere() {
        of("edits: what a NODE's number is then");
        int[] ones = new int[61];
        Arrays.fill(ones, 1);
        for (int parent = 0; parent < 2; parent++) {
            editsOf(parent, childrenOfSizes(parent, ones));
            editsOf(parent, childrenOfSizes(parent, 31, 30));
            editsOf(parent, childrenOfSizes(parent, 32, 29));
            editsOf(parent, childrenOfSizes(parent, -31, -30));
            editsOf(parent, childrenOfSizes(parent, -31, 30));
            editsOf(parent, childrenOfSizes(parent, 29, -32));
            editsOf(parent, childrenOfSizes(parent, 29, 1, -31));
            editsOf(parent, childrenOfSizes(parent, -7, 31, -9, -7));
            editsOf(parent, childrenOfSizes(parent, 33, -28));
            editsOf(parent, childrenOfSizes(parent, 1, -59, 1));
            editsOf(parent, childrenOfSizes(parent, -45, 16));
            editsOf(parent, childrenOfSizes(parent, 7, 8, 9, 16, -15));
        }
    }

    private static void editsOf(int parent, List<String> children) {
        int n = children.size();
        for (int i = 0; i <= n; i++) {
            int at = i;
            int v = parent + 1 + nodesIn(children.subList(0, i));
            List<String> more = new ArrayList<>(children);
            more.add(i, "(77)");
            editsOfChildren(parent, children, "leaf(" + parent + ", " + i + ", 77)", x -> x.leaf(parent, at, 77), v, more);
            for (int k : new int[] {0, 1, n / 2, n - i}) {
                if (i + k <= n) {
                    List<String> fewer = new ArrayList<>(children.subList(0, i));
                    fewer.add("(77" + String.join("", children.subList(i, i + k)) + ")");
                    fewer.addAll(children.subList(i + k, n));
                    editsOfChildren(parent, children, "wrap(" + parent + ", " + i + ", " + k + ", 77)",
                            x -> x.wrap(parent, at, k, 77), v, fewer);
                }
            }
            if (i < n) {
                goings(parent, children, i, v);
            }
        }
    }

    private static void goings(int parent, List<String> children, int i, int v) {
        int n = children.size();
        int nodes = parent + 1 + nodesIn(children);
        String child = children.get(i);
        List<String> rest = new ArrayList<>(children);
        rest.remove(i);
        editsOfChildren(parent, children, "fell(" + v + ")", x -> x.fell(v), nodesIn(List.of(child)), rest);
        List<String> melted = new ArrayList<>(rest);
        melted.add(i, child.substring(("(" + v).length(), child.length() - 1));
        editsOfChildren(parent, children, "melt(" + v + ")", x -> x.melt(v), nodes - 1, melted);
        for (int to : new int[] {0, i / 2, i, (i + n) / 2, n - 1}) {
            List<String> moved = new ArrayList<>(rest);
            moved.add(to, child);
            editsOfChildren(parent, children, "graft(" + v + ", " + parent + ", " + to + ")", x -> x.graft(v, parent, to),
                    parent + 1 + nodesIn(rest.subList(0, to)), moved);
        }
    }

    private static void grows() {
        of("THE TREE becomes one of n NODES (1 to 64), WEIGHTS 0, by a seed");
        badOutside(EdgeTest::ten, "grow(5, ..)", (x, n) -> x.grow(5, n), 1, 64);
        badOutside(EdgeTest::bare, "grow(5, ..)", (x, n) -> x.grow(5, n), 1, 64);
        edits(EdgeTest::ten, "grow(5, 1)", x -> x.grow(5, 1), 0, "(0)");
        edits(EdgeTest::bare, "grow(5, 1)", x -> x.grow(5, 1), 0, "(0)");
        edits(EdgeTest::ten, "grow(5, 2)", x -> x.grow(5, 2), 1, "(0(0))");
        edits(EdgeTest::ten, "grow(5, 2) of FEWEST", x -> x.grow(FEWEST, 2), 1, "(0(0))");
        answers(EdgeTest::full, "grow(5, 64), size(0) then", x -> x.grow(5, 64) * 0 + x.size(0), 64);
        answers(EdgeTest::full, "grow(5, 64), sum(0, 0) then", x -> x.grow(5, 64) * 0 + x.sum(0, 0), 0);
        answers(EdgeTest::full, "grow(5, 64), weight(63) then", x -> x.grow(5, 64) * 0 + x.weight(63), 0);

        of("for each other one the seed becomes seed times 1103515245 and 12345; bits 16 to 30 of it are got: a leaf "
                + "comes as the last child of NODE got modulo NODES (as they are then): the greatest DEPTH.");
        for (int seed : new int[] {0, 1, 2, -1, 12345, MOST, FEWEST, 0x40000000, -987654321}) {
            for (int n : new int[] {2, 3, 9, 33, 64}) {
                growsAsTold(seed, n);
            }
        }
    }

    /** The same tree put together by leaves, one call each. */
    private static void growsAsTold(int seed, int n) {
        ExcessTree x = new ExcessTree();
        x.plant(0);
        int s = seed;
        for (int nodes = 1; nodes < n; nodes++) {
            s = s * 1103515245 + 12345;
            int got = 0;
            for (int bit = 16; bit <= 30; bit++) {
                got |= (s >> bit & 1) << bit - 16;
            }
            int v = got % nodes;
            x.leaf(v, x.node(v, 8), 0);
        }
        ExcessTree y = new ExcessTree();
        due("grow(" + seed + ", " + n + ")", y.grow(seed, n), x.size(2));
        same("grow(" + seed + ", " + n + ")", treeOf(y), treeOf(x));
    }

    // ---- images, sheets

    private static void images() {
        of("IMAGE k (0, 1) is THE TREE: whether there was one (1, 0). BAD.");
        badOutside(EdgeTest::ten, "keep", (x, k) -> x.keep(k), 0, 1);
        badOutside(EdgeTest::bare, "keep of none", (x, k) -> x.keep(k), 0, 1);
        answers(EdgeTest::ten, "keep(0), there was none", x -> x.keep(0), 0);
        answers(EdgeTest::ten, "keep(1), there was one", x -> x.keep(1), 1);
        answers(EdgeTest::ten, "keep(0), keep(0)", x -> x.keep(0) * 10 + x.keep(0), 1);
        ExcessTree x = made(EdgeTest::ten);
        x.keep(0);
        x.set(0, 99);
        x.fell(5);
        due("back(0)", x.back(0), 10);
        same("IMAGE 0 stays as it was", shapeOf(x), TEN);
        due("back(1)", x.back(1), 10);
        same("IMAGE 1", shapeOf(x), "(5(3(2)(9))(4)(0(7(1(6)))(8)))");
        x.fell(0);
        due("keep(1) of no NODES", x.keep(1), 1);
        due("count(0)", x.count(0), 2);
        due("back(0)", x.back(0), 10);
        due("back(1) to no NODES", x.back(1), 0);
        due("size(0)", x.size(0), 0);
        due("keep(1), there was one", x.keep(1), 1);

        of("THE TREE is as IMAGE k: NODES. BAD; STATE: there is none.");
        badOutside(EdgeTest::ten, "back", (y, k) -> y.back(k), 0, 1);
        badOutside(EdgeTest::none, "back at first", (y, k) -> y.back(k), 0, 1);
        keeps(EdgeTest::ten, "back(0), there is none", y -> y.back(0), STATE);
        keeps(EdgeTest::bare, "back(1), there is none", y -> y.back(1), STATE);
        keeps(EdgeTest::none, "back(0) at first", y -> y.back(0), STATE);
        keeps(EdgeTest::none, "back(1) at first", y -> y.back(1), STATE);
        edits(EdgeTest::ten, "back(1)", y -> y.back(1), 10, "(5(3(2)(9))(4)(0(7(1(6)))(8)))");
        edits(EdgeTest::bare, "back(0)", y -> y.back(0), 2, "(8(9))");
        edits(EdgeTest::full, "back(0)", y -> y.back(0), 1, "(1)");
    }

    private static void sheets() {
        of("A SHEET is a new row of CELLS 0: 1. BAD: also n above 40; -10 - 4.");
        badOutside(EdgeTest::ten, "sheet(.., 0, 1)", (x, k) -> x.sheet(k, 0, 1), 0, 3);
        badOutside(EdgeTest::ten, "sheet(0, .., 1)", (x, lane) -> x.sheet(0, lane, 1), 0, 2);
        badOutside(EdgeTest::ten, "sheet(.., 0, -1)", (x, k) -> x.sheet(k, 0, -1), 0, 3);
        badOutside(EdgeTest::ten, "sheet(0, .., -1)", (x, lane) -> x.sheet(0, lane, -1), 0, 2);
        for (int lane = 0; lane < 3; lane++) {
            int l = lane;
            bad(EdgeTest::ten, "sheet(0, " + l + ", 41)", x -> x.sheet(0, l, 41));
            bad(EdgeTest::ten, "sheet(0, " + l + ", MOST)", x -> x.sheet(0, l, MOST));
            keeps(EdgeTest::ten, "sheet(0, " + l + ", -1)", x -> x.sheet(0, l, -1), -14);
            keeps(EdgeTest::ten, "sheet(3, " + l + ", FEWEST)", x -> x.sheet(3, l, FEWEST), -14);
            ExcessTree x = made(EdgeTest::ten);
            due("sheet(0, " + l + ", 0)", x.sheet(0, l, 0), 1);
            due("count(2)", x.count(2), 0);
            due("sheet(0, " + l + ", 40)", x.sheet(0, l, 40), 1);
            due("count(2)", x.count(2), 40);
            for (int i = 0; i < 40; i++) {
                due("look(0, " + i + ")", x.look(0, i), 0);
                x.lay(0, i, -1);
            }
            due("sheet(0, " + l + ", 39)", x.sheet(0, l, 39), 1);
            due("look(0, 38)", x.look(0, 38), 0);
            due("look(0, 39)", x.look(0, 39), 0);
            due("lay(0, 39, 1)", x.lay(0, 39, 1), -12);
            due("sheet(0, " + l + ", 40)", x.sheet(0, l, 40), 1);
            due("look(0, 39)", x.look(0, 39), 0);
        }

        of("CELL i of a SHEET becomes v (its lowest bits): 1. BAD: k; -10 less the FAULT: NULL, INDEX.");
        badOutside(EdgeTest::ten, "lay(.., 0, 1)", (x, k) -> x.lay(k, 0, 1), 0, 3);
        badOutside(EdgeTest::ten, "lay(.., 9, 1)", (x, k) -> x.lay(k, 9, 1), 0, 3);
        for (int i : new int[] {0, 40, -1, MOST, FEWEST}) {
            keeps(EdgeTest::ten, "lay(3, " + i + ", 1) on nothing", x -> x.lay(3, i, 1), -11);
            keeps(EdgeTest::full, "lay(3, " + i + ", 1) without CELLS", x -> x.lay(3, i, 1), -12);
        }
        for (int i : new int[] {3, 4, 40, -1, MOST, FEWEST}) {
            keeps(EdgeTest::ten, "lay(0, " + i + ", 1)", x -> x.lay(0, i, 1), -12);
        }
        long[][] lowest = {{127, 127, 127, 127}, {128, -128, 128, 128}, {255, -1, 255, 255}, {256, 0, 256, 256},
            {-129, 127, -129, -129}, {MOST, -1, MOST, MOST}, {2147483648L, 0, FEWEST, 2147483648L},
            {4294967295L, -1, -1, 4294967295L}, {4294967296L, 0, 0, 4294967296L}, {-2147483649L, -1, MOST, -2147483649L},
            {Long.MAX_VALUE, -1, -1, Long.MAX_VALUE}, {Long.MIN_VALUE, 0, 0, Long.MIN_VALUE}, {-1, -1, -1, -1}};
        for (long[] v : lowest) {
            for (int lane = 0; lane < 3; lane++) {
                ExcessTree x = new ExcessTree();
                x.sheet(lane, lane, 2);
                due("lay(" + lane + ", 1, " + v[0] + ")", x.lay(lane, 1, v[0]), 1);
                due("look(" + lane + ", 1) of " + v[0], x.look(lane, 1), v[lane + 1]);
                due("look(" + lane + ", 0) beside it", x.look(lane, 0), 0);
            }
        }

        of("CELL i of a SHEET. (With no such SHEET, CELL: 0.)");
        for (int n : new int[] {-1, 4, MOST, FEWEST}) {
            keeps(EdgeTest::ten, "look(" + n + ", 0)", x -> x.look(n, 0), 0);
            keeps(EdgeTest::ten, "look(0, " + n + ")", x -> x.look(0, n), 0);
            keeps(EdgeTest::ten, "look(3, " + n + ") on nothing", x -> x.look(3, n), 0);
        }
        keeps(EdgeTest::ten, "look(0, 3), just behind", x -> x.look(0, 3), 0);
        keeps(EdgeTest::ten, "look(0, 2), the last", x -> x.look(0, 2), -3);
        keeps(EdgeTest::ten, "look(0, 0)", x -> x.look(0, 0), 77);
        keeps(EdgeTest::full, "look(3, 0) without CELLS", x -> x.look(3, 0), 0);
    }

    /** Bits 110100 from bit 3 on in sheet 0 of bytes, ones in sheet 1 of ints, a chain of 64 from bit 60 on in sheet 2. */
    private static void readable(ExcessTree x) {
        ten(x);
        x.sheet(0, 0, 2);
        x.lay(0, 0, 0b01011000);
        x.sheet(1, 1, 40);
        x.lay(1, 39, -1);
        x.sheet(2, 2, 3);
        x.lay(2, 0, -1L << 60);
        x.lay(2, 1, (1L << 60) - 1);
    }

    private static void reads() {
        of("n bits (0 to 128) of a SHEET taken as of a lane, from bit f (0 on) on, are the ROW of THE TREE (1: ( ), "
                + "WEIGHTS 0: NODES.");
        edits(EdgeTest::readable, "read(0, 0, 3, 6)", x -> x.read(0, 0, 3, 6), 3, "(0(0)(0))");
        edits(EdgeTest::readable, "read(0, 0, 4, 2)", x -> x.read(0, 0, 4, 2), 1, "(0)");
        edits(EdgeTest::readable, "read(2, 2, 60, 128)", x -> x.read(2, 2, 60, 128), 64,
                "(0".repeat(64) + ")".repeat(64));
        edits(x -> {
            ten(x);
            x.sheet(0, 0, 2);
            x.lay(0, 1, 64);
        }, "read(0, 0, 14, 2): just to the end", x -> x.read(0, 0, 14, 2), 1, "(0)");
        edits(EdgeTest::readable, "read(0, 0, 0, 0)", x -> x.read(0, 0, 0, 0), 0, "");
        edits(EdgeTest::readable, "a read that is refused, then one that is not",
                x -> x.read(0, 0, 3, 5) * 10 + x.read(0, 0, 3, 6), -17, "(0(0)(0))");
        edits(EdgeTest::readable, "a read that is torn, then one that is not",
                x -> x.read(0, 0, 3, 14) * 10 + x.read(0, 0, 3, 6), -117, "(0(0)(0))");
        edits(EdgeTest::readable, "two reads", x -> x.read(2, 2, 60, 128) * 10 + x.read(0, 0, 3, 6), 643, "(0(0)(0))");

        of("BAD: k, lane, n, f; -10 less the FAULT");
        for (int n : new int[] {0, 2, 128}) {
            badOutside(EdgeTest::readable, "read(.., 0, 0, " + n + ")", (x, k) -> x.read(k, 0, 0, n), 0, 3);
            badOutside(EdgeTest::readable, "read(0, .., 0, " + n + ")", (x, lane) -> x.read(0, lane, 0, n), 0, 2);
            badBelow0(EdgeTest::readable, "read(0, 0, .., " + n + ")", (x, f) -> x.read(0, 0, f, n));
            badBelow0(EdgeTest::readable, "read(3, 0, .., " + n + ") of nothing", (x, f) -> x.read(3, 0, f, n));
        }
        badOutside(EdgeTest::readable, "read(2, 2, 60, ..)", (x, n) -> x.read(2, 2, 60, n), 0, 128);
        badOutside(EdgeTest::readable, "read(3, 2, 60, ..) of nothing", (x, n) -> x.read(3, 2, 60, n), 0, 128);
        badOutside(EdgeTest::readable, "read(0, 2, 60, ..) of another lane", (x, n) -> x.read(0, 2, 60, n), 0, 128);
        for (int f : new int[] {0, 3, 1000, MOST}) {
            for (int lane = 0; lane < 3; lane++) {
                int l = lane;
                keeps(EdgeTest::readable, "read(3, " + l + ", " + f + ", 1) of nothing", x -> x.read(3, l, f, 1), -11);
                keeps(EdgeTest::readable, "read(3, " + l + ", " + f + ", 128) of nothing", x -> x.read(3, l, f, 128), -11);
                for (int k = 0; k < 3; k++) {
                    int s = k;
                    if (k != lane) {
                        keeps(EdgeTest::readable, "read(" + k + ", " + l + ", " + f + ", 2)", x -> x.read(s, l, f, 2), -13);
                    }
                }
            }
        }
        keeps(EdgeTest::readable, "read(0, 0, 15, 2): the 2nd bit", x -> x.read(0, 0, 15, 2), -12);
        keeps(EdgeTest::readable, "read(0, 0, 16, 1)", x -> x.read(0, 0, 16, 1), -12);
        keeps(EdgeTest::readable, "read(0, 0, 3, 14): the 14th bit", x -> x.read(0, 0, 3, 14), -12);
        keeps(EdgeTest::readable, "read(0, 0, 3, 13): all within", x -> x.read(0, 0, 3, 13), STATE);
        keeps(EdgeTest::readable, "read(1, 1, 1279, 2)", x -> x.read(1, 1, 1279, 2), -12);
        keeps(EdgeTest::readable, "read(1, 1, 1279, 1)", x -> x.read(1, 1, 1279, 1), STATE);
        keeps(EdgeTest::readable, "read(2, 2, 64, 128)", x -> x.read(2, 2, 64, 128), STATE);
        keeps(EdgeTest::readable, "read(2, 2, 65, 128)", x -> x.read(2, 2, 65, 128), -12);
        for (int k = 0; k < 3; k++) {
            int s = k;
            for (int n : new int[] {1, 2, 128}) {
                keeps(EdgeTest::readable, "read(" + k + ", " + k + ", MOST, " + n + ")", x -> x.read(s, s, MOST, n), -12);
                keeps(EdgeTest::readable, "read(" + k + ", " + k + ", MOST - 1, " + n + ")",
                        x -> x.read(s, s, MOST - 1, n), -12);
            }
        }
        keeps(EdgeTest::full, "read(3, 2, 0, 1) without CELLS", x -> x.read(3, 2, 0, 1), -12);

        of("STATE: they are no ROW of a tree (of none: n is 0; no bit is taken then, there is no FAULT).");
        keeps(EdgeTest::readable, "read(0, 0, 3, 5): odd", x -> x.read(0, 0, 3, 5), STATE);
        keeps(EdgeTest::readable, "read(0, 0, 3, 4): not back at 0", x -> x.read(0, 0, 3, 4), STATE);
        keeps(EdgeTest::readable, "read(0, 0, 3, 8): below 0", x -> x.read(0, 0, 3, 8), STATE);
        keeps(EdgeTest::readable, "read(0, 0, 4, 4): two trees", x -> {
            x.read(0, 0, 4, 4);
            return x.read(0, 0, 4, 4);
        }, STATE);
        keeps(EdgeTest::readable, "read(0, 0, 5, 2): ) ahead", x -> x.read(0, 0, 5, 2), STATE);
        keeps(EdgeTest::readable, "read(0, 0, 2, 8): ) ahead", x -> x.read(0, 0, 2, 8), STATE);
        keeps(EdgeTest::readable, "read(0, 0, 3, 1): one bit", x -> x.read(0, 0, 3, 1), STATE);
        keeps(EdgeTest::readable, "read(1, 1, 1248, 32): all (", x -> x.read(1, 1, 1248, 32), STATE);
        keeps(EdgeTest::readable, "read(1, 1, 0, 128): all )", x -> x.read(1, 1, 0, 128), STATE);
        keeps(EdgeTest::readable, "read(2, 2, 60, 127)", x -> x.read(2, 2, 60, 127), STATE);
        keeps(EdgeTest::readable, "read(2, 2, 59, 128)", x -> x.read(2, 2, 59, 128), STATE);
        keeps(EdgeTest::readable, "read(2, 2, 61, 128)", x -> x.read(2, 2, 61, 128), STATE);
        for (int k = 0; k < 4; k++) {
            for (int lane = 0; lane < 3; lane++) {
                for (int f : new int[] {0, 16, MOST}) {
                    int s = k;
                    int l = lane;
                    edits(EdgeTest::readable, "read(" + s + ", " + l + ", " + f + ", 0)", x -> x.read(s, l, f, 0), 0, "");
                }
            }
        }
    }

    /** A stow, what it answers and what torn() tells then; the tree stays. */
    private static void stows(Setup setup, int k, int lane, int f, int laid, int torn) {
        ExcessTree x = made(setup);
        String call = "stow(" + k + ", " + lane + ", " + f + ")";
        due(call, x.stow(k, lane, f), laid);
        due("torn() behind " + call, x.torn(), torn);
        due("torn() again", x.torn(), torn);
        ExcessTree y = made(setup);
        same("the tree behind " + call, treeOf(x), treeOf(y));
        for (int other = 0; other < 4; other++) {
            if (other != k || laid == 0) {
                same("SHEET " + other + " behind " + call, sheetOf(x, other), sheetOf(y, other));
            }
        }
    }

    private static void stows() {
        of("The ROW of THE TREE is laid into a SHEET taken as of a lane, from bit f (0 on) on, one bit behind another: "
                + "how many were laid.");
        Setup three = x -> {
            tell(x, "(1(2)(3))");
            beside(x);
        };
        stows(three, 0, 0, 0, 6, 0);
        stows(three, 0, 0, 18, 6, 0);
        stows(three, 1, 1, 58, 6, 0);
        stows(three, 2, 2, 58, 6, 0);
        ExcessTree x = made(three);
        x.stow(0, 0, 6);
        due("look(0, 0): bits ahead stay", x.look(0, 0), 77 & 63 | (byte) 192);
        due("look(0, 1)", x.look(0, 1), 2);
        due("look(0, 2): bits behind stay", x.look(0, 2), -3);
        x.stow(2, 2, 58);
        due("look(2, 0): 0s are laid too", x.look(2, 0), 0b001011L << 58 | 5);

        of("What the machine refuses: those ahead stay (its FAULT is asked by torn(); without NODES no bit is laid, "
                + "there is none).");
        stows(three, 0, 0, 19, 5, 2);
        stows(three, 0, 0, 23, 1, 2);
        stows(three, 0, 0, 24, 0, 2);
        stows(three, 0, 0, 1000, 0, 2);
        stows(three, 1, 1, 59, 5, 2);
        stows(three, 2, 2, 63, 1, 2);
        stows(three, 2, 2, 64, 0, 2);
        for (int k = 0; k < 4; k++) {
            for (int lane = 0; lane < 3; lane++) {
                stows(three, k, lane, MOST, 0, k == 3 ? 1 : k == lane ? 2 : 3);
                stows(three, k, lane, MOST - 3, 0, k == 3 ? 1 : k == lane ? 2 : 3);
                if (k != lane) {
                    stows(three, k, lane, 0, 0, k == 3 ? 1 : 3);
                }
                stows(EdgeTest::bare, k, lane, 0, 0, 0);
                stows(EdgeTest::bare, k, lane, MOST, 0, 0);
            }
        }
        stows(EdgeTest::full, 3, 2, 0, 0, 2);
        x = made(three);
        due("stow(0, 0, 21)", x.stow(0, 0, 21), 3);
        due("look(0, 2): those ahead stay", x.look(0, 2), (byte) (-3 & 31 | 0b011 << 5));
        due("stow(1, 1, 31)", x.stow(1, 1, 31), 6);
        due("look(1, 0)", x.look(1, 0), FEWEST);
        due("look(1, 1)", x.look(1, 1), 0b00101);
        Setup roomy = y -> {
            full(y);
            y.sheet(1, 2, 3);
        };
        stows(roomy, 1, 2, 64, 128, 0);
        stows(roomy, 1, 2, 65, 127, 2);

        of("BAD: k, lane, f.");
        for (Setup setup : new Setup[] {EdgeTest::ten, EdgeTest::bare}) {
            badOutside(setup, "stow(.., 0, 0)", (y, k) -> y.stow(k, 0, 0), 0, 3);
            badOutside(setup, "stow(0, .., 0)", (y, lane) -> y.stow(0, lane, 0), 0, 2);
            badOutside(setup, "stow(3, .., 0) on nothing", (y, lane) -> y.stow(3, lane, 0), 0, 2);
            badBelow0(setup, "stow(0, 0, ..)", (y, f) -> y.stow(0, 0, f));
            badBelow0(setup, "stow(3, 0, ..) on nothing", (y, f) -> y.stow(3, 0, f));
            badBelow0(setup, "stow(0, 1, ..) of another lane", (y, f) -> y.stow(0, 1, f));
        }

        of("The FAULT of the latest stow() that was not BAD; 0.");
        answers(EdgeTest::none, "torn() at first", y -> y.torn(), 0);
        answers(three, "torn() behind one that is torn", y -> y.torn(), 2);
        answers(three, "torn() behind one that is not", y -> y.stow(0, 0, 0) * 10 + y.torn(), 60);
        answers(three, "torn() behind BAD", y -> y.stow(0, 0, -1) * 10 + y.torn(), -8);
        answers(three, "torn() behind BAD, k", y -> y.stow(4, 0, 0) * 10 + y.torn(), -8);
        answers(three, "torn() behind BAD, lane", y -> y.stow(0, 3, 0) * 10 + y.torn(), -8);
        answers(three, "torn() behind NULL", y -> y.stow(3, 0, 0) * 10 + y.torn(), 1);
        answers(three, "torn() behind CAST", y -> y.stow(0, 1, 0) * 10 + y.torn(), 3);
        answers(three, "torn() behind a read that is torn", y -> y.read(3, 0, 0, 1) * 10 + y.torn(), -108);
        answers(three, "torn() behind a lay that is torn", y -> y.lay(3, 0, 1) * 10 + y.torn(), -108);
        answers(three, "torn() behind a sheet that is torn", y -> y.sheet(0, 0, -1) * 10 + y.torn(), -138);
        answers(EdgeTest::bare, "torn() behind one without NODES", y -> y.torn() * 10 + y.stow(3, 0, 0) + y.torn(), 20);
    }

    private static void counts() {
        of("How many: 0 IMAGES, 1 bytes on THE TAPE, 2 CELLS of SHEET 0 (NONE: nothing), 3 bits of the ROW that are 1 at "
                + "odd PLACES. BAD.");
        badOutside(EdgeTest::ten, "count", (x, what) -> x.count(what), 0, 3);
        badOutside(EdgeTest::none, "count at first", (x, what) -> x.count(what), 0, 3);
        list(EdgeTest::none, "count at first", (x, what) -> x.count(what), 0, 0, 0, NONE, 0);
        list(EdgeTest::ten, "count", (x, what) -> x.count(what), 0, 1, 6, 3, 4);
        answers(EdgeTest::ten, "count(0) of both", x -> x.keep(0) + x.count(0), 2);
        answers(EdgeTest::none, "count(0) of IMAGE 1", x -> x.keep(1) + x.count(0), 1);
        answers(x -> feedAll(x, " ".repeat(160)), "count(1) of 160", x -> x.count(1), 160);
        answers(x -> x.sheet(1, 0, 5), "count(2), SHEET 1 alone", x -> x.count(2), NONE);
        answers(x -> x.sheet(0, 0, 0), "count(2) without CELLS", x -> x.count(2), 0);
        answers(x -> x.sheet(0, 2, 40), "count(2) of 40", x -> x.count(2), 40);
        answers(x -> x.plant(0), "count(3) of one", x -> x.count(3), 0);
        answers(EdgeTest::full, "count(3) of 64", x -> x.count(3), 63);
    }

    public static void main(String[] args) throws Exception {
        Path path = Path.of("../shared/DOC.md");
        if (Files.exists(path)) {
            document = Files.readString(path);
        }
        termsOfAnswers();
        termsOfTheTree();
        termsOfTheTape();
        termsOfTexts();
        termsOfFaults();
        termsOfTakenTexts();
        termsOfSheets();
        newObject();
        feeds();
        ends();
        texts();
        sizes();
        bitsAndExcess();
        ranksAndSelects();
        searches();
        leastsAndBlocks();
        nodesThemselves();
        nodesUpAndDown();
        nodesTogether();
        weights();
        plants();
        leaves();
        prunesAndFells();
        wraps();
        melts();
        grafts();
        editsEverywhere();
        grows();
        images();
        sheets();
        reads();
        stows();
        counts();
        System.out.println(wrong == 0 ? "all edges are as due" : wrong + " answers are not as due");
        if (wrong != 0) {
            System.exit(1);
        }
    }
}
