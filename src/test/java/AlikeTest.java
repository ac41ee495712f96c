/** Promise 9: how many first operands have the same result; BAD for all else. */
public final class AlikeTest {
    public static void main(String[] args) {
        byHand();
        for (int style = 0; style <= 1; style++) {
            for (int w = 2; w <= 6; w++) {
                onAllNumbers(w, style);
                noSuchOperation(w, style);
            }
        }
        Due.finish();
    }

    private static void byHand() {
        DatapathGates x = new DatapathGates(4, 0);
        x.operands(6, 4);
        // x * 4 modulo 16 is 8 for 2, 6, 10 and 14
        Due.due("alike(2)", x.alike(2), 4);
        // 4 to 15 are not below 4
        Due.due("alike(4)", x.alike(4), 12);
        // six of the sixteen numbers have two bits 1
        Due.due("alike(12)", x.alike(12), 6);
        // 4 to 7 have one bit 0 above
        Due.due("alike(13)", x.alike(13), 4);
        // 6 and -6
        Due.due("alike(14)", x.alike(14), 2);
        // 10 and 11 halved
        Due.due("alike(15)", x.alike(15), 2);
        Due.due("alike(0)", x.alike(0), 1);
        x.operands(6, 0);
        Due.due("alike(2) with 0", x.alike(2), 16);
    }

    private static void onAllNumbers(int w, int style) {
        for (int a = 0; a < Reference.count(w); a++) {
            for (int b = 0; b < Reference.count(w); b++) {
                DatapathGates x = new DatapathGates(w, style);
                x.operands(a, b);
                for (int op = 0; op < Reference.OPERATIONS; op++) {
                    String call = "w " + w + " style " + style + " on " + a + ", " + b + ": alike(" + op + ")";
                    Due.due(call, x.alike(op), Reference.alike(w, op, a, b));
                }
                Due.due("first() after alike", x.first(), a);
                Due.due("second() after alike", x.second(), b);
            }
        }
    }

    private static void noSuchOperation(int w, int style) {
        DatapathGates x = new DatapathGates(w, style);
        x.operands(3, 2);
        for (int op : new int[] {-1, -2, -16, 16, 17, 32, Integer.MIN_VALUE, Integer.MAX_VALUE}) {
            Due.due("alike(" + op + ")", x.alike(op), -1);
            Due.due("first() after alike(" + op + ")", x.first(), 3);
            Due.due("second() after alike(" + op + ")", x.second(), 2);
        }
    }
}
