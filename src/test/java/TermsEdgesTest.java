/** "Terms": the sentences about the width, numbers, their bits, their signed reading and the modulo. */
public final class TermsEdgesTest {
    public static void main(String[] args) {
        Due.sentence("Terms: There is a WIDTH w from 2 to 6", TermsEdgesTest::widths);
        Due.sentence("Terms: A NUMBER is a whole number from 0 to 2^w - 1", TermsEdgesTest::numbers);
        Due.sentence("Terms: its bits are numbered from 0, the lowest", TermsEdgesTest::bitNumbers);
        Due.sentence("Terms: its SIGNED reading is the number itself if bit w - 1 is 0", TermsEdgesTest::signClear);
        Due.sentence("Terms: else the number less 2^w", TermsEdgesTest::signSet);
        Due.sentence("Terms: Results are taken modulo 2^w where it is not said otherwise", TermsEdgesTest::modulo);
        Due.finish();
    }

    private static void widths() {
        int[][] asked = {{2, 2}, {3, 3}, {4, 4}, {5, 5}, {6, 6}, {1, 2}, {7, 6}};
        for (int[] pair : asked) {
            for (int style : Edge.STYLES) {
                DatapathGates x = new DatapathGates(pair[0], style);
                Due.due("width() of " + pair[0], x.width(), pair[1]);
                Due.due("a number of the width has so many bits", bitsOf(x), pair[1]);
            }
        }
    }

    private static int bitsOf(DatapathGates x) {
        int bits = 0;
        for (int i = 0; i < 40; i++) {
            if (x.bit(0, i) != DatapathGates.BAD) {
                bits++;
            }
        }
        return bits;
    }

    private static void numbers() {
        int[][] tops = {{2, 3}, {3, 7}, {4, 15}, {5, 31}, {6, 63}};
        for (int[] pair : tops) {
            int w = pair[0];
            int top = pair[1];
            DatapathGates x = new DatapathGates(w, 0);
            Due.due("w " + w + " 0 is a number", x.operands(0, 0), true);
            Due.due("w " + w + " 2^w - 1 is a number", x.operands(top, top), true);
            Due.due("w " + w + " -1 is not the first", x.operands(-1, 0), false);
            Due.due("w " + w + " -1 is not the second", x.operands(0, -1), false);
            Due.due("w " + w + " 2^w is not the first", x.operands(top + 1, 0), false);
            Due.due("w " + w + " 2^w is not the second", x.operands(0, top + 1), false);
            Edge.alike(w, 2, 0, 0, top + 1);
        }
    }

    private static void bitNumbers() {
        for (int w : Edge.WIDTHS) {
            for (int i = 0; i < w; i++) {
                DatapathGates one = Edge.holding(w, 0, 1 << i, 0);
                DatapathGates others = Edge.holding(w, 1, Edge.top(w) - (1 << i), 0);
                for (int k = 0; k < w; k++) {
                    Due.due("w " + w + " bit " + k + " of 2^" + i, one.bit(0, k), k == i ? 1 : 0);
                    Due.due("w " + w + " bit " + k + " of all but 2^" + i, others.bit(0, k), k == i ? 0 : 1);
                }
            }
        }
    }

    private static void signClear() {
        for (int w : Edge.WIDTHS) {
            int highest = Edge.highest(w);
            Edge.result(w, 14, 0, 0, 0);
            Edge.result(w, 14, 1, 0, 1);
            Edge.result(w, 14, highest, 0, highest);
            Edge.result(w, 5, 0, highest, 1);
            Edge.result(w, 5, highest, 0, 0);
            Edge.result(w, 11, 0, highest, highest);
            Edge.result(w, 8, highest, 1, highest / 2);
        }
    }

    private static void signSet() {
        for (int w : Edge.WIDTHS) {
            int top = Edge.top(w);
            int lowest = Edge.lowest(w);
            Edge.result(w, 14, top, 0, 1);
            Edge.result(w, 14, lowest, 0, lowest);
            Edge.result(w, 5, top, 0, 1);
            Edge.result(w, 5, 0, top, 0);
            Edge.result(w, 5, lowest, top, 1);
            Edge.result(w, 5, top, lowest, 0);
            Edge.result(w, 11, top, lowest, top);
            Edge.result(w, 11, lowest, 0, 0);
        }
    }

    private static void modulo() {
        for (int w : Edge.WIDTHS) {
            int top = Edge.top(w);
            Edge.result(w, 0, top, 1, 0);
            Edge.result(w, 1, 0, 1, top);
            Edge.result(w, 2, top, top, 1);
            Edge.result(w, 6, top, 1, top - 1);
            for (int op = 0; op < 16; op++) {
                isNumber(w, op, 0, 0);
                isNumber(w, op, 0, top);
                isNumber(w, op, top, 0);
                isNumber(w, op, top, top);
                isNumber(w, op, top, Edge.lowest(w));
                isNumber(w, op, Edge.lowest(w), top);
                isNumber(w, op, Edge.lowest(w), Edge.lowest(w));
                isNumber(w, op, top, w - 1);
            }
        }
    }

    private static void isNumber(int w, int op, int a, int b) {
        for (int style : Edge.STYLES) {
            int got = Edge.holding(w, style, a, b).result(op);
            String call = "w " + w + " on " + a + ", " + b + ": result(" + op + ") is " + got + ", a number:";
            Due.due(call, got >= 0 && got <= Edge.top(w), true);
        }
    }
}
