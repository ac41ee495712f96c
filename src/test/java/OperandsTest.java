/** Promises 2, 7 and 8, and 11 for operands: numbers are taken, all else is refused and changes nothing. */
public final class OperandsTest {
    public static void main(String[] args) {
        for (int w = 2; w <= 6; w++) {
            for (int style = 0; style <= 1; style++) {
                takesEveryPair(w, style);
                refusesAllElse(w, style);
            }
        }
        Due.finish();
    }

    private static void takesEveryPair(int w, int style) {
        for (int a = 0; a < Reference.count(w); a++) {
            DatapathGates x = new DatapathGates(w, style);
            for (int b = 0; b < Reference.count(w); b++) {
                String call = "w " + w + " operands(" + a + ", " + b + ")";
                Due.due(call, x.operands(a, b), true);
                Due.due(call + " first()", x.first(), a);
                Due.due(call + " second()", x.second(), b);
            }
        }
    }

    private static void refusesAllElse(int w, int style) {
        int count = Reference.count(w);
        int[] wrong = {-1, -2, -count, count, count + 1, 2 * count, 64, 256, 65536, 1 << 30,
            Integer.MIN_VALUE, Integer.MIN_VALUE + 1, Integer.MAX_VALUE};
        int[] right = {0, 1, count - 1};
        DatapathGates x = new DatapathGates(w, style);
        x.operands(2, 3);
        for (int n : wrong) {
            for (int m : right) {
                refused(x, n, m);
                refused(x, m, n);
            }
            refused(x, n, n);
        }
        Due.due("operands after refusals", x.operands(1, 0), true);
        Due.due("first() after refusals", x.first(), 1);
        Due.due("second() after refusals", x.second(), 0);
    }

    private static void refused(DatapathGates x, int a, int b) {
        String call = "w " + x.width() + " operands(" + a + ", " + b + ")";
        Due.due(call, x.operands(a, b), false);
        Due.due(call + " first()", x.first(), 2);
        Due.due(call + " second()", x.second(), 3);
    }
}
