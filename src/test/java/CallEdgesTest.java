/** Promises 1 to 10: each sentence that names a boundary case, by itself. */
public final class CallEdgesTest {
    public static void main(String[] args) {
        Due.sentence("1: w is width clamped into 2..6, too small", CallEdgesTest::widthTooSmall);
        Due.sentence("1: w is width clamped into 2..6, too large", CallEdgesTest::widthTooLarge);
        Due.sentence("1: w is width clamped into 2..6, not clamped from 2 to 6", CallEdgesTest::widthAsGiven);
        Due.sentence("1: style shows in no answer", CallEdgesTest::styleShowsInNoAnswer);
        Due.sentence("1: The two operands are 0", CallEdgesTest::operandsAreZero);
        Due.sentence("2: Sets the operands ... Else true, from 0 to 2^w - 1", CallEdgesTest::operandsTaken);
        Due.sentence("2: a outside 0 .. 2^w - 1: refused, answers false", CallEdgesTest::firstOutside);
        Due.sentence("2: b outside 0 .. 2^w - 1: refused, answers false", CallEdgesTest::secondOutside);
        Due.sentence("2: a and b both outside 0 .. 2^w - 1: refused, answers false", CallEdgesTest::bothOutside);
        Due.sentence("3: BAD for op outside 0..15", CallEdgesTest::resultOutside);
        Due.sentence("4: BAD for op outside 0..15", CallEdgesTest::bitOperationOutside);
        Due.sentence("4: BAD for i outside 0..w-1", CallEdgesTest::bitOutside);
        Due.sentence("5: Makes the result of an operation the first operand (a); answers it", CallEdgesTest::fed);
        Due.sentence("5: BAD for op outside 0..15", CallEdgesTest::feedOutside);
        Due.sentence("6: Exchanges the operands", CallEdgesTest::swapped);
        Due.sentence("7: The first operand, on a new object", CallEdgesTest::firstOnNew);
        Due.sentence("7: The first operand, behind a refused call", CallEdgesTest::firstBehindRefused);
        Due.sentence("8: The second operand, on a new object", CallEdgesTest::secondOnNew);
        Due.sentence("8: The second operand, behind a refused call", CallEdgesTest::secondBehindRefused);
        Due.sentence("9: BAD for op outside 0..15", CallEdgesTest::alikeOutside);
        Due.sentence("9: every number x has the same result", CallEdgesTest::allAlike);
        Due.sentence("9: the first operand as it is alone has the result", CallEdgesTest::noneAlike);
        Due.sentence("10: w, of a width that is not clamped", CallEdgesTest::width);
        Due.sentence("10: w, of a width that was clamped", CallEdgesTest::widthClamped);
        Due.finish();
    }

    private static void widthTooSmall() {
        for (int width : new int[] {1, 0, -1, -2, -6, Edge.LEAST_INT, Edge.LEAST_INT + 4}) {
            actsAsWide(width, 2);
        }
    }

    private static void widthTooLarge() {
        for (int width : new int[] {7, 8, 12, 31, 32, 34, 64, Edge.GREATEST_INT}) {
            actsAsWide(width, 6);
        }
    }

    private static void widthAsGiven() {
        for (int w : Edge.WIDTHS) {
            actsAsWide(w, w);
        }
    }

    /** The width is looked at by what it does, since width() has a sentence of its own. */
    private static void actsAsWide(int width, int w) {
        int top = Edge.top(w);
        for (int style : Edge.STYLES) {
            String name = "new(" + width + ", " + style + ").";
            DatapathGates x = new DatapathGates(width, style);
            Due.due(name + "operands(2^w, 0)", x.operands(top + 1, 0), false);
            Due.due(name + "operands(0, 2^w)", x.operands(0, top + 1), false);
            Due.due(name + "operands(2^w - 1, 1)", x.operands(top, 1), true);
            Due.due(name + "result(0)", x.result(0), 0);
            Due.due(name + "result(12)", x.result(12), w);
            Due.due(name + "result(15)", x.result(15), Edge.lowest(w));
            Due.due(name + "bit(15, w - 1)", x.bit(15, w - 1), 1);
            Due.due(name + "bit(15, w)", x.bit(15, w), -1);
            Due.due(name + "alike(12)", x.alike(12), 1);
            Due.due(name + "operands(0, 0)", x.operands(0, 0), true);
            Due.due(name + "result(13)", x.result(13), w);
            Due.due(name + "alike(2)", x.alike(2), top + 1);
        }
    }

    private static void styleShowsInNoAnswer() {
        for (int w : Edge.WIDTHS) {
            for (int style : new int[] {1, 2, -1, 15, 16, Edge.LEAST_INT, Edge.GREATEST_INT}) {
                for (int a = -1; a <= Edge.top(w) + 1; a++) {
                    for (int b : new int[] {-1, 0, 1, w, Edge.highest(w), Edge.lowest(w), Edge.top(w), Edge.top(w) + 1}) {
                        sameAnswers(w, style, a, b);
                    }
                }
            }
        }
    }

    private static void sameAnswers(int w, int style, int a, int b) {
        DatapathGates running = new DatapathGates(w, 0);
        DatapathGates other = new DatapathGates(w, style);
        String name = "w " + w + " style " + style + " on " + a + ", " + b + ": ";
        Due.due(name + "operands", other.operands(a, b), running.operands(a, b));
        for (int op = -1; op <= 16; op++) {
            Due.due(name + "result(" + op + ")", other.result(op), running.result(op));
            Due.due(name + "alike(" + op + ")", other.alike(op), running.alike(op));
            for (int i = -1; i <= w; i++) {
                Due.due(name + "bit(" + op + ", " + i + ")", other.bit(op, i), running.bit(op, i));
            }
        }
        for (int op = -1; op <= 16; op++) {
            Due.due(name + "feed(" + op + ")", other.feed(op), running.feed(op));
            other.swap();
            running.swap();
            Due.due(name + "first()", other.first(), running.first());
            Due.due(name + "second()", other.second(), running.second());
        }
        Due.due(name + "width()", other.width(), running.width());
    }

    private static void operandsAreZero() {
        for (int width : new int[] {2, 3, 4, 5, 6, 1, 7, Edge.LEAST_INT, Edge.GREATEST_INT}) {
            for (int style : new int[] {0, 1, 5, -1}) {
                DatapathGates x = new DatapathGates(width, style);
                int w = width < 2 ? 2 : Math.min(width, 6);
                // what every operation has of 0 and 0
                for (int op = 0; op < 16; op++) {
                    Due.due("new(" + width + ", " + style + ").result(" + op + ")", x.result(op), op == 13 ? w : 0);
                }
                Edge.holds(x, "new(" + width + ", " + style + ")", 0, 0);
            }
        }
    }

    private static void operandsTaken() {
        for (int w : Edge.WIDTHS) {
            int top = Edge.top(w);
            int[][] pairs = {{0, top}, {top, 0}, {top, top}, {0, 0}, {1, top - 1}, {Edge.lowest(w), Edge.highest(w)}};
            for (int style : Edge.STYLES) {
                DatapathGates x = new DatapathGates(w, style);
                for (int[] pair : pairs) {
                    String call = "w " + w + " operands(" + pair[0] + ", " + pair[1] + ")";
                    Due.due(call, x.operands(pair[0], pair[1]), true);
                    Edge.holds(x, call, pair[0], pair[1]);
                }
            }
        }
    }

    private static int[] noNumbers(int w) {
        int top = Edge.top(w);
        return new int[] {-1, top + 1, -2, top + 2, -top, -top - 1, 2 * top + 2, 64, 100, 256, 65536, 1 << 30,
            Edge.LEAST_INT, Edge.LEAST_INT + 1, Edge.GREATEST_INT};
    }

    private static void firstOutside() {
        for (int w : Edge.WIDTHS) {
            for (int n : noNumbers(w)) {
                operandsRefused(w, n, 0);
                operandsRefused(w, n, Edge.top(w));
            }
        }
    }

    private static void secondOutside() {
        for (int w : Edge.WIDTHS) {
            for (int n : noNumbers(w)) {
                operandsRefused(w, 0, n);
                operandsRefused(w, Edge.top(w), n);
            }
        }
    }

    private static void bothOutside() {
        for (int w : Edge.WIDTHS) {
            for (int n : noNumbers(w)) {
                operandsRefused(w, n, n);
                operandsRefused(w, n, -1);
                operandsRefused(w, n, Edge.top(w) + 1);
            }
        }
    }

    private static void operandsRefused(int w, int a, int b) {
        for (int style : Edge.STYLES) {
            String call = "w " + w + " style " + style + " operands(" + a + ", " + b + ")";
            DatapathGates x = Edge.holding(w, style, 1, 2);
            Due.due(call, x.operands(a, b), false);
            Edge.holds(x, call, 1, 2);
            DatapathGates unused = new DatapathGates(w, style);
            Due.due(call + " on a new object", unused.operands(a, b), false);
            Edge.holds(unused, call + " on a new object", 0, 0);
        }
    }

    private static void resultOutside() {
        for (int w : Edge.WIDTHS) {
            for (int style : Edge.STYLES) {
                DatapathGates x = Edge.holding(w, style, 3, 1);
                for (int op : Edge.NO_OPERATIONS) {
                    Due.due("w " + w + " result(" + op + ")", x.result(op), -1);
                }
                // the ends of 0..15 are operations
                Due.due("w " + w + " result(0)", x.result(0), w == 2 ? 0 : 4);
                Due.due("w " + w + " result(15)", x.result(15), 2);
            }
        }
    }

    private static void bitOperationOutside() {
        for (int w : Edge.WIDTHS) {
            for (int style : Edge.STYLES) {
                DatapathGates x = Edge.holding(w, style, 3, 1);
                for (int op : Edge.NO_OPERATIONS) {
                    for (int i = -1; i <= w; i++) {
                        Due.due("w " + w + " bit(" + op + ", " + i + ")", x.bit(op, i), -1);
                    }
                }
                Due.due("w " + w + " bit(0, 0)", x.bit(0, 0), 0);
                Due.due("w " + w + " bit(15, 1)", x.bit(15, 1), 1);
            }
        }
    }

    private static void bitOutside() {
        for (int w : Edge.WIDTHS) {
            for (int style : Edge.STYLES) {
                DatapathGates x = Edge.holding(w, style, Edge.top(w), 0);
                int[] noBits = {-1, w, -2, w + 1, 6, 7, 16, 31, 32, -31, -32, Edge.LEAST_INT, Edge.GREATEST_INT};
                for (int op = 0; op < 16; op++) {
                    for (int i : noBits) {
                        Due.due("w " + w + " bit(" + op + ", " + i + ")", x.bit(op, i), -1);
                    }
                }
                // the ends of 0..w-1 are bits
                Due.due("w " + w + " bit(0, 0)", x.bit(0, 0), 1);
                Due.due("w " + w + " bit(0, w - 1)", x.bit(0, w - 1), 1);
            }
        }
    }

    private static void fed() {
        for (int w : Edge.WIDTHS) {
            int top = Edge.top(w);
            for (int style : Edge.STYLES) {
                DatapathGates x = Edge.holding(w, style, top, 1);
                String name = "w " + w + " feed(";
                Due.due(name + "0) wraps around to 0", x.feed(0), 0);
                Edge.holds(x, name + "0)", 0, 1);
                Due.due(name + "1) wraps around to the top", x.feed(1), top);
                Edge.holds(x, name + "1)", top, 1);
                Due.due(name + "15)", x.feed(15), Edge.lowest(w));
                Edge.holds(x, name + "15)", Edge.lowest(w), 1);
                Due.due(name + "14) of the lowest", x.feed(14), Edge.lowest(w));
                Edge.holds(x, name + "14)", Edge.lowest(w), 1);
            }
        }
    }

    private static void feedOutside() {
        for (int w : Edge.WIDTHS) {
            for (int style : Edge.STYLES) {
                DatapathGates x = Edge.holding(w, style, 3, 1);
                for (int op : Edge.NO_OPERATIONS) {
                    Due.due("w " + w + " feed(" + op + ")", x.feed(op), -1);
                    Edge.holds(x, "w " + w + " feed(" + op + ")", 3, 1);
                }
                Due.due("w " + w + " feed(15)", x.feed(15), 2);
                Due.due("w " + w + " feed(0)", x.feed(0), 3);
            }
        }
    }

    private static void swapped() {
        for (int w : Edge.WIDTHS) {
            int top = Edge.top(w);
            for (int[] pair : new int[][] {{0, top}, {top, 0}, {0, 0}, {top, top}, {1, 2}, {Edge.lowest(w), 1}}) {
                DatapathGates x = Edge.holding(w, 0, pair[0], pair[1]);
                x.swap();
                Edge.holds(x, "w " + w + " swapped", pair[1], pair[0]);
                x.swap();
                Edge.holds(x, "w " + w + " swapped twice", pair[0], pair[1]);
            }
            DatapathGates unused = new DatapathGates(w, 1);
            unused.swap();
            Edge.holds(unused, "w " + w + " a new object swapped", 0, 0);
        }
    }

    private static void firstOnNew() {
        for (int width = 1; width <= 7; width++) {
            for (int style : Edge.STYLES) {
                Due.due("new(" + width + ", " + style + ").first()", new DatapathGates(width, style).first(), 0);
            }
        }
    }

    private static void secondOnNew() {
        for (int width = 1; width <= 7; width++) {
            for (int style : Edge.STYLES) {
                Due.due("new(" + width + ", " + style + ").second()", new DatapathGates(width, style).second(), 0);
            }
        }
    }

    private static void firstBehindRefused() {
        for (int w : Edge.WIDTHS) {
            DatapathGates x = Edge.holding(w, 0, 2, 1);
            for (int kind = 0; kind < Refused.KINDS; kind++) {
                String call = Refused.call(x, kind);
                Due.due("w " + w + " first() behind " + call, x.first(), 2);
            }
        }
    }

    private static void secondBehindRefused() {
        for (int w : Edge.WIDTHS) {
            DatapathGates x = Edge.holding(w, 0, 1, 2);
            for (int kind = 0; kind < Refused.KINDS; kind++) {
                String call = Refused.call(x, kind);
                Due.due("w " + w + " second() behind " + call, x.second(), 2);
            }
        }
    }

    private static void alikeOutside() {
        for (int w : Edge.WIDTHS) {
            for (int style : Edge.STYLES) {
                DatapathGates x = Edge.holding(w, style, 3, 1);
                for (int op : Edge.NO_OPERATIONS) {
                    Due.due("w " + w + " alike(" + op + ")", x.alike(op), -1);
                    Edge.holds(x, "w " + w + " alike(" + op + ")", 3, 1);
                }
                Due.due("w " + w + " alike(0)", x.alike(0), 1);
                // x + 1 halved is 2 for 3 and 4, but 4 is no number of two bits
                Due.due("w " + w + " alike(15)", x.alike(15), w == 2 ? 1 : 2);
            }
        }
    }

    private static void allAlike() {
        for (int w : Edge.WIDTHS) {
            int all = Edge.top(w) + 1;
            for (int a : new int[] {0, 1, Edge.highest(w), Edge.lowest(w), Edge.top(w)}) {
                // nothing times 0 is above 0, nor has a product with 0 or 1 an upper half
                Edge.alike(w, 2, a, 0, all);
                Edge.alike(w, 3, a, 0, all);
                Edge.alike(w, 3, a, 1, all);
                // nothing is below the lowest
                Edge.alike(w, 4, a, 0, all);
                Edge.alike(w, 5, a, Edge.lowest(w), all);
                Edge.alike(w, 10, a, 0, all);
                // nothing is above the highest
                Edge.alike(w, 11, a, Edge.highest(w), all);
            }
        }
    }

    private static void noneAlike() {
        for (int w : Edge.WIDTHS) {
            int top = Edge.top(w);
            for (int a : new int[] {0, 1, Edge.highest(w), Edge.lowest(w), top}) {
                for (int b : new int[] {0, 1, w, top}) {
                    Edge.alike(w, 0, a, b, 1);
                    Edge.alike(w, 1, a, b, 1);
                    Edge.alike(w, 9, a, b, 1);
                }
                Edge.alike(w, 2, a, 1, 1);
                Edge.alike(w, 6, a, w, 1);
                Edge.alike(w, 7, a, w, 1);
                Edge.alike(w, 8, a, w, 1);
                Edge.alike(w, 10, a, top, 1);
                Edge.alike(w, 11, a, Edge.lowest(w), 1);
            }
            Edge.alike(w, 4, 0, 1, 1);
            Edge.alike(w, 4, top, top, 1);
            Edge.alike(w, 5, Edge.highest(w), Edge.highest(w), 1);
            Edge.alike(w, 12, 0, 0, 1);
            Edge.alike(w, 12, top, 0, 1);
            Edge.alike(w, 13, 0, 0, 1);
            Edge.alike(w, 13, 1, 0, 1);
            Edge.alike(w, 14, 0, 0, 1);
            Edge.alike(w, 14, Edge.lowest(w), 0, 1);
            Edge.alike(w, 15, 0, 1, 1);
            Edge.alike(w, 15, top, 1, 1);
        }
    }

    private static void width() {
        for (int w : Edge.WIDTHS) {
            for (int style : Edge.STYLES) {
                DatapathGates x = new DatapathGates(w, style);
                Due.due("new(" + w + ", " + style + ").width()", x.width(), w);
                widthStays(x, w);
            }
        }
    }

    private static void widthClamped() {
        int[][] clamped = {{1, 2}, {0, 2}, {-1, 2}, {Edge.LEAST_INT, 2}, {7, 6}, {8, 6}, {64, 6}, {Edge.GREATEST_INT, 6}};
        for (int[] pair : clamped) {
            for (int style : Edge.STYLES) {
                DatapathGates x = new DatapathGates(pair[0], style);
                Due.due("new(" + pair[0] + ", " + style + ").width()", x.width(), pair[1]);
                widthStays(x, pair[1]);
            }
        }
    }

    private static void widthStays(DatapathGates x, int w) {
        x.operands(3, 2);
        x.feed(0);
        x.swap();
        for (int kind = 0; kind < Refused.KINDS; kind++) {
            String call = Refused.call(x, kind);
            Due.due("width() behind " + call, x.width(), w);
        }
    }
}
