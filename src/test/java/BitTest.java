/** Promise 4: every bit of every result, the lowest being bit 0; BAD for all else. */
public final class BitTest {
    private static final int[] FAR = {Integer.MIN_VALUE, -33, -32, -2, -1, 32, 33, 64, Integer.MAX_VALUE};

    public static void main(String[] args) {
        byHand();
        for (int style = 0; style <= 1; style++) {
            for (int w = 2; w <= 6; w++) {
                everyBit(w, style);
                noSuchBit(w, style);
            }
        }
        Due.finish();
    }

    private static void byHand() {
        DatapathGates x = new DatapathGates(4, 0);
        x.operands(9, 5);
        // 14 is 1110
        Due.due("bit(0, 0)", x.bit(0, 0), 0);
        Due.due("bit(0, 1)", x.bit(0, 1), 1);
        Due.due("bit(0, 2)", x.bit(0, 2), 1);
        Due.due("bit(0, 3)", x.bit(0, 3), 1);
        Due.due("bit(0, 4)", x.bit(0, 4), -1);
    }

    private static void everyBit(int w, int style) {
        for (int a = 0; a < Reference.count(w); a++) {
            for (int b = 0; b < Reference.count(w); b++) {
                DatapathGates x = new DatapathGates(w, style);
                x.operands(a, b);
                for (int op = 0; op < Reference.OPERATIONS; op++) {
                    int result = Reference.result(w, op, a, b);
                    for (int i = 0; i < w; i++) {
                        String call = "w " + w + " style " + style + " on " + a + ", " + b + ": bit(" + op + ", " + i + ")";
                        Due.due(call, x.bit(op, i), result / Reference.count(i) % 2);
                    }
                }
                Due.due("first() after bits", x.first(), a);
                Due.due("second() after bits", x.second(), b);
            }
        }
    }

    private static void noSuchBit(int w, int style) {
        DatapathGates x = new DatapathGates(w, style);
        x.operands(3, 1);
        for (int op = 0; op < Reference.OPERATIONS; op++) {
            for (int i : FAR) {
                Due.due("w " + w + " bit(" + op + ", " + i + ")", x.bit(op, i), -1);
            }
            Due.due("w " + w + " bit(" + op + ", w)", x.bit(op, w), -1);
            Due.due("w " + w + " bit(" + op + ", w + 1)", x.bit(op, w + 1), -1);
        }
        for (int op : new int[] {Integer.MIN_VALUE, -1, 16, 17, Integer.MAX_VALUE}) {
            for (int i = -1; i <= w; i++) {
                Due.due("w " + w + " bit(" + op + ", " + i + ")", x.bit(op, i), -1);
            }
        }
        Due.due("first() after refusals", x.first(), 3);
        Due.due("second() after refusals", x.second(), 1);
    }
}
