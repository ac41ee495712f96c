import java.util.function.Consumer;

/** "Terms": each of the sixteen operations at its own edges, in every width and both styles. */
public final class OperationEdgesTest {
    // Each row is {w, b, b modulo w}.
    private static final int[][] BELOW_WIDTH = {
        {2, 1, 1}, {3, 1, 1}, {3, 2, 2}, {4, 1, 1}, {4, 2, 2}, {4, 3, 3}, {5, 1, 1}, {5, 3, 3}, {5, 4, 4},
        {6, 1, 1}, {6, 2, 2}, {6, 4, 4}, {6, 5, 5}};
    private static final int[][] EQUAL_TO_WIDTH = {{2, 2, 0}, {3, 3, 0}, {4, 4, 0}, {5, 5, 0}, {6, 6, 0}};
    private static final int[][] ABOVE_WIDTH = {
        {2, 3, 1}, {3, 4, 1}, {3, 5, 2}, {3, 7, 1}, {4, 5, 1}, {4, 7, 3}, {4, 14, 2}, {4, 15, 3},
        {5, 6, 1}, {5, 9, 4}, {5, 29, 4}, {5, 31, 1}, {6, 7, 1}, {6, 11, 5}, {6, 59, 5}, {6, 63, 3}};
    private static final int[][] MULTIPLE_OF_WIDTH = {
        {2, 0, 0}, {3, 0, 0}, {3, 6, 0}, {4, 0, 0}, {4, 8, 0}, {4, 12, 0}, {5, 0, 0}, {5, 10, 0}, {5, 30, 0},
        {6, 0, 0}, {6, 12, 0}, {6, 48, 0}, {6, 60, 0}};

    public static void main(String[] args) {
        Due.sentence("0: a + b, a wrap-around", OperationEdgesTest::sum);
        Due.sentence("1: a - b, a wrap-around", OperationEdgesTest::difference);
        Due.sentence("2: a * b, a product that is not below 2^w", OperationEdgesTest::product);
        Due.sentence("3: the whole part of a * b / 2^w, a product that is not below 2^w", OperationEdgesTest::upperProduct);
        Due.sentence("4: 1 if a < b, else 0, equal operands", OperationEdgesTest::belowEqual);
        Due.sentence("4: 1 if a < b, else 0, signed readings with different signs", OperationEdgesTest::belowAcrossSigns);
        Due.sentence("5: 1 if the signed reading of a is less than that of b, equal operands",
            OperationEdgesTest::signedBelowEqual);
        Due.sentence("5: 1 if the signed reading of a is less than that of b, different signs",
            OperationEdgesTest::signedBelowAcrossSigns);
        shifts("6: a shifted left by (b modulo w) bits", OperationEdgesTest::left);
        shifts("7: a shifted right by (b modulo w) bits, with zeros", OperationEdgesTest::right);
        shifts("8: a shifted right by (b modulo w) bits, with copies of bit w - 1", OperationEdgesTest::rightWithSign);
        shifts("9: a turned left by (b modulo w) bits (bits that leave at the top come in at the bottom)",
            OperationEdgesTest::turned);
        Due.sentence("10: the smaller one of a and b, equal operands", OperationEdgesTest::smallerEqual);
        Due.sentence("10: the smaller one of a and b, at the ends and across signs", OperationEdgesTest::smaller);
        Due.sentence("11: the one of a and b with the greater signed reading, equal operands",
            OperationEdgesTest::greaterEqual);
        Due.sentence("11: the one of a and b with the greater signed reading, at the ends and across signs",
            OperationEdgesTest::greater);
        Due.sentence("12: how many bits of a are 1 (modulo 2^w), none and all", OperationEdgesTest::ones);
        Due.sentence("13: how many bits 0 are above the highest bit 1 of a (modulo 2^w)", OperationEdgesTest::zerosAbove);
        Due.sentence("13: w if a is 0", OperationEdgesTest::zerosAboveNothing);
        Due.sentence("14: the signed reading of a without its sign", OperationEdgesTest::withoutSign);
        Due.sentence("14: the number whose signed reading is lowest", OperationEdgesTest::lowestWithoutSign);
        Due.sentence("15: the whole part of (a + b) / 2", OperationEdgesTest::wholePartOfHalf);
        Due.sentence("15: where a + b is not cut off", OperationEdgesTest::halfNotCutOff);
        Due.finish();
    }

    private static void sum() {
        for (int w : Edge.WIDTHS) {
            int top = Edge.top(w);
            int lowest = Edge.lowest(w);
            Edge.result(w, 0, 0, 0, 0);
            Edge.result(w, 0, top, 0, top);
            Edge.result(w, 0, 0, top, top);
            Edge.result(w, 0, top - 1, 1, top);
            Edge.result(w, 0, Edge.highest(w), lowest, top);
            Edge.result(w, 0, Edge.highest(w), 1, lowest);
            Edge.result(w, 0, top, 1, 0);
            Edge.result(w, 0, 1, top, 0);
            Edge.result(w, 0, top, 2, 1);
            Edge.result(w, 0, lowest, lowest, 0);
            Edge.result(w, 0, top, top, top - 1);
        }
        Edge.result(6, 0, 40, 30, 6);
    }

    private static void difference() {
        for (int w : Edge.WIDTHS) {
            int top = Edge.top(w);
            int lowest = Edge.lowest(w);
            Edge.result(w, 1, 0, 0, 0);
            Edge.result(w, 1, top, top, 0);
            Edge.result(w, 1, top, 0, top);
            Edge.result(w, 1, lowest, 1, Edge.highest(w));
            Edge.result(w, 1, 0, 1, top);
            Edge.result(w, 1, 1, 2, top);
            Edge.result(w, 1, 0, top, 1);
            Edge.result(w, 1, 1, top, 2);
            Edge.result(w, 1, 0, lowest, lowest);
            Edge.result(w, 1, top - 1, top, top);
        }
        Edge.result(6, 1, 30, 40, 54);
    }

    private static void product() {
        for (int w : Edge.WIDTHS) {
            int top = Edge.top(w);
            int lowest = Edge.lowest(w);
            Edge.result(w, 2, 0, top, 0);
            Edge.result(w, 2, top, 0, 0);
            Edge.result(w, 2, 1, top, top);
            Edge.result(w, 2, top, 1, top);
            Edge.result(w, 2, lowest, 2, 0);
            Edge.result(w, 2, lowest, lowest, 0);
            Edge.result(w, 2, top, 2, top - 1);
            Edge.result(w, 2, lowest, top, lowest);
            Edge.result(w, 2, top, top, 1);
        }
        // 15, 16, 18 and 225
        Edge.result(4, 2, 5, 3, 15);
        Edge.result(4, 2, 4, 4, 0);
        Edge.result(4, 2, 6, 3, 2);
        Edge.result(4, 2, 15, 15, 1);
        // 63, 64 and 65
        Edge.result(6, 2, 21, 3, 63);
        Edge.result(6, 2, 16, 4, 0);
        Edge.result(6, 2, 13, 5, 1);
    }

    private static void upperProduct() {
        for (int w : Edge.WIDTHS) {
            int top = Edge.top(w);
            int lowest = Edge.lowest(w);
            Edge.result(w, 3, 0, top, 0);
            Edge.result(w, 3, top, 0, 0);
            Edge.result(w, 3, top, 1, 0);
            Edge.result(w, 3, 1, top, 0);
            Edge.result(w, 3, lowest, 2, 1);
            Edge.result(w, 3, 2, lowest, 1);
            Edge.result(w, 3, lowest, lowest, lowest / 2);
            Edge.result(w, 3, top, 2, 1);
            Edge.result(w, 3, lowest, top, Edge.highest(w));
            Edge.result(w, 3, top, top, top - 1);
        }
        Edge.result(4, 3, 5, 3, 0);
        Edge.result(4, 3, 4, 4, 1);
        // 30 and 32, then 63 and 64
        Edge.result(4, 3, 10, 3, 1);
        Edge.result(4, 3, 8, 4, 2);
        Edge.result(6, 3, 21, 3, 0);
        Edge.result(6, 3, 16, 4, 1);
        // 961 is 15 * 64 and 1 more
        Edge.result(6, 3, 31, 31, 15);
    }

    private static void belowEqual() {
        for (int w : Edge.WIDTHS) {
            for (int n = 0; n <= Edge.top(w); n++) {
                Edge.result(w, 4, n, n, 0);
            }
            for (int n = 1; n <= Edge.top(w); n++) {
                Edge.result(w, 4, n - 1, n, 1);
                Edge.result(w, 4, n, n - 1, 0);
            }
        }
    }

    private static void belowAcrossSigns() {
        for (int w : Edge.WIDTHS) {
            int top = Edge.top(w);
            Edge.result(w, 4, Edge.highest(w), Edge.lowest(w), 1);
            Edge.result(w, 4, Edge.lowest(w), Edge.highest(w), 0);
            Edge.result(w, 4, 0, top, 1);
            Edge.result(w, 4, top, 0, 0);
            Edge.result(w, 4, 0, Edge.lowest(w), 1);
            Edge.result(w, 4, Edge.lowest(w), 0, 0);
            Edge.result(w, 4, Edge.highest(w), top, 1);
            Edge.result(w, 4, top, Edge.highest(w), 0);
        }
    }

    private static void signedBelowEqual() {
        for (int w : Edge.WIDTHS) {
            for (int n = 0; n <= Edge.top(w); n++) {
                Edge.result(w, 5, n, n, 0);
            }
        }
    }

    private static void signedBelowAcrossSigns() {
        for (int w : Edge.WIDTHS) {
            int top = Edge.top(w);
            Edge.result(w, 5, Edge.lowest(w), Edge.highest(w), 1);
            Edge.result(w, 5, Edge.highest(w), Edge.lowest(w), 0);
            Edge.result(w, 5, top, 0, 1);
            Edge.result(w, 5, 0, top, 0);
            Edge.result(w, 5, Edge.lowest(w), 0, 1);
            Edge.result(w, 5, 0, Edge.lowest(w), 0);
            Edge.result(w, 5, top, Edge.highest(w), 1);
            Edge.result(w, 5, Edge.highest(w), top, 0);
            Edge.result(w, 5, Edge.lowest(w), top, 1);
            Edge.result(w, 5, top, Edge.lowest(w), 0);
        }
    }

    private static void shifts(String words, Consumer<int[]> test) {
        Due.sentence(words + ", b below w", () -> forEach(BELOW_WIDTH, test));
        Due.sentence(words + ", b equal to w", () -> forEach(EQUAL_TO_WIDTH, test));
        Due.sentence(words + ", b above w", () -> forEach(ABOVE_WIDTH, test));
        Due.sentence(words + ", b modulo w equal to 0", () -> forEach(MULTIPLE_OF_WIDTH, test));
    }

    private static void forEach(int[][] rows, Consumer<int[]> test) {
        for (int[] row : rows) {
            test.accept(row);
        }
    }

    private static void left(int[] row) {
        int w = row[0];
        int b = row[1];
        int amount = row[2];
        int factor = 1 << amount;
        Edge.result(w, 6, 0, b, 0);
        Edge.result(w, 6, 1, b, factor);
        Edge.result(w, 6, Edge.top(w), b, Edge.top(w) - (factor - 1));
        Edge.result(w, 6, Edge.lowest(w), b, amount == 0 ? Edge.lowest(w) : 0);
        if (w == 6) {
            // 101101
            int[] shifted = {45, 26, 52, 40, 16, 32};
            Edge.result(6, 6, 45, b, shifted[amount]);
        }
    }

    private static void right(int[] row) {
        int w = row[0];
        int b = row[1];
        int amount = row[2];
        Edge.result(w, 7, 0, b, 0);
        Edge.result(w, 7, 1, b, amount == 0 ? 1 : 0);
        Edge.result(w, 7, Edge.top(w), b, (1 << w - amount) - 1);
        Edge.result(w, 7, Edge.lowest(w), b, 1 << w - 1 - amount);
        if (w == 6) {
            int[] shifted = {45, 22, 11, 5, 2, 1};
            Edge.result(6, 7, 45, b, shifted[amount]);
        }
    }

    private static void rightWithSign(int[] row) {
        int w = row[0];
        int b = row[1];
        int amount = row[2];
        int rest = (1 << w - 1 - amount) - 1;
        Edge.result(w, 8, 0, b, 0);
        Edge.result(w, 8, Edge.top(w), b, Edge.top(w));
        Edge.result(w, 8, Edge.lowest(w), b, Edge.top(w) - rest);
        Edge.result(w, 8, Edge.highest(w), b, rest);
        if (w == 6) {
            // 101101, then 001101
            int[] withOnes = {45, 54, 59, 61, 62, 63};
            int[] withZeros = {13, 6, 3, 1, 0, 0};
            Edge.result(6, 8, 45, b, withOnes[amount]);
            Edge.result(6, 8, 13, b, withZeros[amount]);
        }
    }

    private static void turned(int[] row) {
        int w = row[0];
        int b = row[1];
        int amount = row[2];
        int one = 1 << amount;
        Edge.result(w, 9, 0, b, 0);
        Edge.result(w, 9, Edge.top(w), b, Edge.top(w));
        Edge.result(w, 9, 1, b, one);
        Edge.result(w, 9, Edge.top(w) - 1, b, Edge.top(w) - one);
        Edge.result(w, 9, Edge.lowest(w), b, amount == 0 ? Edge.lowest(w) : one / 2);
        if (w == 6) {
            // 101100
            int[] turned = {44, 25, 50, 37, 11, 22};
            Edge.result(6, 9, 44, b, turned[amount]);
        }
    }

    private static void smallerEqual() {
        for (int w : Edge.WIDTHS) {
            for (int n = 0; n <= Edge.top(w); n++) {
                Edge.result(w, 10, n, n, n);
            }
        }
    }

    private static void smaller() {
        for (int w : Edge.WIDTHS) {
            int top = Edge.top(w);
            Edge.result(w, 10, 0, top, 0);
            Edge.result(w, 10, top, 0, 0);
            Edge.result(w, 10, top - 1, top, top - 1);
            Edge.result(w, 10, top, top - 1, top - 1);
            Edge.result(w, 10, Edge.highest(w), Edge.lowest(w), Edge.highest(w));
            Edge.result(w, 10, Edge.lowest(w), Edge.highest(w), Edge.highest(w));
        }
    }

    private static void greaterEqual() {
        for (int w : Edge.WIDTHS) {
            for (int n = 0; n <= Edge.top(w); n++) {
                Edge.result(w, 11, n, n, n);
            }
        }
    }

    private static void greater() {
        for (int w : Edge.WIDTHS) {
            int top = Edge.top(w);
            Edge.result(w, 11, 0, top, 0);
            Edge.result(w, 11, top, 0, 0);
            Edge.result(w, 11, Edge.lowest(w), Edge.highest(w), Edge.highest(w));
            Edge.result(w, 11, Edge.highest(w), Edge.lowest(w), Edge.highest(w));
            Edge.result(w, 11, Edge.lowest(w), top, top);
            Edge.result(w, 11, top, Edge.lowest(w), top);
            Edge.result(w, 11, 0, 1, 1);
            Edge.result(w, 11, 0, Edge.highest(w), Edge.highest(w));
        }
    }

    /** Operations 12 to 14 are of a alone, so that b must not show. */
    private static void ofFirstAlone(int w, int op, int a, int want) {
        Edge.result(w, op, a, 0, want);
        Edge.result(w, op, a, 1, want);
        Edge.result(w, op, a, Edge.lowest(w), want);
        Edge.result(w, op, a, Edge.top(w), want);
    }

    private static void ones() {
        for (int w : Edge.WIDTHS) {
            ofFirstAlone(w, 12, 0, 0);
            // w is below 2^w in every width, so the modulo never cuts it
            ofFirstAlone(w, 12, Edge.top(w), w);
            ofFirstAlone(w, 12, Edge.highest(w), w - 1);
            ofFirstAlone(w, 12, Edge.top(w) - 1, w - 1);
            for (int i = 0; i < w; i++) {
                ofFirstAlone(w, 12, 1 << i, 1);
                ofFirstAlone(w, 12, Edge.top(w) - (1 << i), w - 1);
            }
        }
    }

    private static void zerosAbove() {
        for (int w : Edge.WIDTHS) {
            ofFirstAlone(w, 13, Edge.top(w), 0);
            ofFirstAlone(w, 13, Edge.lowest(w), 0);
            ofFirstAlone(w, 13, Edge.highest(w), 1);
            ofFirstAlone(w, 13, 1, w - 1);
            for (int i = 0; i < w; i++) {
                ofFirstAlone(w, 13, 1 << i, w - 1 - i);
                ofFirstAlone(w, 13, (2 << i) - 1, w - 1 - i);
            }
        }
    }

    private static void zerosAboveNothing() {
        ofFirstAlone(2, 13, 0, 2);
        ofFirstAlone(3, 13, 0, 3);
        ofFirstAlone(4, 13, 0, 4);
        ofFirstAlone(5, 13, 0, 5);
        ofFirstAlone(6, 13, 0, 6);
    }

    private static void withoutSign() {
        for (int w : Edge.WIDTHS) {
            ofFirstAlone(w, 14, 0, 0);
            ofFirstAlone(w, 14, 1, 1);
            ofFirstAlone(w, 14, Edge.highest(w), Edge.highest(w));
            ofFirstAlone(w, 14, Edge.top(w), 1);
            ofFirstAlone(w, 14, Edge.lowest(w) + 1, Edge.highest(w));
        }
        ofFirstAlone(6, 14, 50, 14);
    }

    private static void lowestWithoutSign() {
        ofFirstAlone(2, 14, 2, 2);
        ofFirstAlone(3, 14, 4, 4);
        ofFirstAlone(4, 14, 8, 8);
        ofFirstAlone(5, 14, 16, 16);
        ofFirstAlone(6, 14, 32, 32);
    }

    private static void wholePartOfHalf() {
        for (int w : Edge.WIDTHS) {
            int top = Edge.top(w);
            Edge.result(w, 15, 0, 0, 0);
            Edge.result(w, 15, 0, 1, 0);
            Edge.result(w, 15, 1, 0, 0);
            Edge.result(w, 15, 1, 1, 1);
            Edge.result(w, 15, 2, 1, 1);
            Edge.result(w, 15, top, 0, Edge.highest(w));
            Edge.result(w, 15, 0, top, Edge.highest(w));
            Edge.result(w, 15, Edge.lowest(w), Edge.highest(w), Edge.highest(w));
        }
    }

    private static void halfNotCutOff() {
        for (int w : Edge.WIDTHS) {
            int top = Edge.top(w);
            int lowest = Edge.lowest(w);
            Edge.result(w, 15, top, 1, lowest);
            Edge.result(w, 15, 1, top, lowest);
            Edge.result(w, 15, lowest, lowest, lowest);
            Edge.result(w, 15, top, 2, lowest);
            Edge.result(w, 15, top, top - 1, top - 1);
            Edge.result(w, 15, top, top, top);
        }
        Edge.result(6, 15, 40, 31, 35);
    }
}
