/** Promise 3: the result of every operation on all numbers of every width; BAD for all else. */
public final class ResultTest {
    public static void main(String[] args) {
        for (int style = 0; style <= 1; style++) {
            byHand(style);
            for (int w = 2; w <= 6; w++) {
                onAllNumbers(w, style);
                noSuchOperation(w, style);
            }
        }
        Due.finish();
    }

    /** Worked out on paper, so that a slip in Reference does not go unseen. */
    private static void byHand(int style) {
        // 1011 and 0110: 11 and 6, read with sign -5 and 6; 6 modulo 4 is 2
        int[] ordinary = {1, 5, 2, 4, 0, 1, 12, 2, 14, 14, 6, 6, 3, 0, 5, 8};
        onPair(4, style, 11, 6, ordinary);
        // 010 and 111: 2 and 7, read with sign 2 and -1; 7 modulo 3 is 1
        int[] oddWidth = {1, 3, 6, 1, 1, 0, 4, 1, 1, 4, 2, 2, 1, 1, 2, 4};
        onPair(3, style, 2, 7, oddWidth);
        // the least signed number has no opposite
        int[] least = {0, 0, 0, 16, 0, 0, 0, 8, 56, 2, 32, 32, 1, 0, 32, 32};
        onPair(6, style, 32, 32, least);
        // all ones: the sum keeps its carry in operation 15
        int[] full = {62, 0, 1, 62, 0, 0, 56, 7, 63, 63, 63, 63, 6, 0, 1, 63};
        onPair(6, style, 63, 63, full);
        int[] nothing = {0, 0, 0, 0, 0, 0, 0, 0, 0, 0, 0, 0, 0, 5, 0, 0};
        onPair(5, style, 0, 0, nothing);
        // 10 and 11: read with sign -2 and -1; 3 modulo 2 is 1
        int[] narrow = {1, 3, 2, 1, 1, 1, 0, 1, 3, 1, 2, 3, 1, 0, 2, 2};
        onPair(2, style, 2, 3, narrow);
    }

    private static void onPair(int w, int style, int a, int b, int[] wanted) {
        DatapathGates x = new DatapathGates(w, style);
        x.operands(a, b);
        for (int op = 0; op < wanted.length; op++) {
            String call = "w " + w + " style " + style + " on " + a + ", " + b + ": result(" + op + ")";
            Due.due(call, x.result(op), wanted[op]);
            Due.due("Reference " + call, Reference.result(w, op, a, b), wanted[op]);
        }
    }

    private static void onAllNumbers(int w, int style) {
        for (int a = 0; a < Reference.count(w); a++) {
            for (int b = 0; b < Reference.count(w); b++) {
                DatapathGates x = new DatapathGates(w, style);
                x.operands(a, b);
                for (int op = 0; op < Reference.OPERATIONS; op++) {
                    String call = "w " + w + " style " + style + " on " + a + ", " + b + ": result(" + op + ")";
                    Due.due(call, x.result(op), Reference.result(w, op, a, b));
                }
                Due.due("first() after results", x.first(), a);
                Due.due("second() after results", x.second(), b);
            }
        }
    }

    private static void noSuchOperation(int w, int style) {
        DatapathGates x = new DatapathGates(w, style);
        x.operands(3, 2);
        for (int op : new int[] {-1, -2, -16, 16, 17, 31, 32, 256, Integer.MIN_VALUE, Integer.MAX_VALUE}) {
            Due.due("result(" + op + ")", x.result(op), -1);
            Due.due("first() after result(" + op + ")", x.first(), 3);
            Due.due("second() after result(" + op + ")", x.second(), 2);
        }
    }
}
