/** Promise 5, and 11 for feed: the result becomes the first operand; all else is refused and changes nothing. */
public final class FeedTest {
    public static void main(String[] args) {
        byHand();
        for (int style = 0; style <= 1; style++) {
            for (int w = 2; w <= 6; w++) {
                onAllNumbers(w, style);
                oneAfterAnother(w, style);
                refused(w, style);
            }
        }
        Due.finish();
    }

    private static void byHand() {
        DatapathGates x = new DatapathGates(4, 1);
        x.operands(3, 5);
        Due.due("feed(2)", x.feed(2), 15);
        Due.due("first()", x.first(), 15);
        Due.due("second()", x.second(), 5);
        Due.due("feed(0)", x.feed(0), 4);
        Due.due("first()", x.first(), 4);
        Due.due("result(1)", x.result(1), 15);
    }

    private static void onAllNumbers(int w, int style) {
        for (int a = 0; a < Reference.count(w); a++) {
            for (int b = 0; b < Reference.count(w); b++) {
                DatapathGates x = new DatapathGates(w, style);
                for (int op = 0; op < Reference.OPERATIONS; op++) {
                    x.operands(a, b);
                    String call = "w " + w + " style " + style + " on " + a + ", " + b + ": feed(" + op + ")";
                    int wanted = Reference.result(w, op, a, b);
                    Due.due(call, x.feed(op), wanted);
                    Due.due(call + " first()", x.first(), wanted);
                    Due.due(call + " second()", x.second(), b);
                }
            }
        }
    }

    private static void oneAfterAnother(int w, int style) {
        DatapathGates x = new DatapathGates(w, style);
        int a = 1;
        int b = 3;
        x.operands(a, b);
        for (int step = 0; step < 250; step++) {
            int op = step * 7 % 17 % Reference.OPERATIONS;
            a = Reference.result(w, op, a, b);
            Due.due("w " + w + " step " + step + " feed(" + op + ")", x.feed(op), a);
            if (step % 5 == 0) {
                int former = a;
                a = b;
                b = former;
                x.swap();
            }
        }
    }

    private static void refused(int w, int style) {
        DatapathGates x = new DatapathGates(w, style);
        x.operands(3, 2);
        for (int op : new int[] {-1, -2, -16, 16, 17, 32, Integer.MIN_VALUE, Integer.MAX_VALUE}) {
            Due.due("feed(" + op + ")", x.feed(op), -1);
            Due.due("first() after feed(" + op + ")", x.first(), 3);
            Due.due("second() after feed(" + op + ")", x.second(), 2);
        }
    }
}
