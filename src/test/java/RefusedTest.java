/** Promise 11: among calls of every kind, those that are refused change nothing. */
public final class RefusedTest {
    private static final int MOST_CALLS = 512;

    public static void main(String[] args) {
        for (int w = 2; w <= 6; w++) {
            for (int start = 0; start < 40; start++) {
                mixedCalls(w, start);
            }
        }
        Due.finish();
    }

    /** A plain run of made-up numbers picks the calls, so that every run of the test is the same. */
    private static void mixedCalls(int w, int start) {
        DatapathGates x = new DatapathGates(w, start % 3);
        int a = 0;
        int b = 0;
        long made = start * 1000003L + w;
        for (int call = 0; call < MOST_CALLS; call++) {
            made = made * 6364136223846793005L + 1442695040888963407L;
            int kind = (int) (made >>> 60) % 9;
            int n = (int) (made >>> 33) % (Reference.count(w) + 6) - 3;
            int m = (int) (made >>> 45) % (Reference.count(w) + 4) - 2;
            int op = (int) (made >>> 50) % 20 - 2;
            boolean isOperation = op >= 0 && op < Reference.OPERATIONS;
            String name = "w " + w + " start " + start + " call " + call + ": ";
            switch (kind) {
                case 0 -> {
                    boolean taken = n >= 0 && n < Reference.count(w) && m >= 0 && m < Reference.count(w);
                    Due.due(name + "operands(" + n + ", " + m + ")", x.operands(n, m), taken);
                    a = taken ? n : a;
                    b = taken ? m : b;
                }
                case 1 -> {
                    int wanted = isOperation ? Reference.result(w, op, a, b) : -1;
                    Due.due(name + "result(" + op + ")", x.result(op), wanted);
                }
                case 2 -> {
                    boolean isBit = isOperation && n >= 0 && n < w;
                    int wanted = isBit ? Reference.result(w, op, a, b) / Reference.count(n) % 2 : -1;
                    Due.due(name + "bit(" + op + ", " + n + ")", x.bit(op, n), wanted);
                }
                case 3 -> {
                    int wanted = isOperation ? Reference.result(w, op, a, b) : -1;
                    Due.due(name + "feed(" + op + ")", x.feed(op), wanted);
                    a = isOperation ? wanted : a;
                }
                case 4 -> {
                    x.swap();
                    int former = a;
                    a = b;
                    b = former;
                }
                case 5 -> Due.due(name + "first()", x.first(), a);
                case 6 -> Due.due(name + "second()", x.second(), b);
                case 7 -> {
                    int wanted = isOperation ? Reference.alike(w, op, a, b) : -1;
                    Due.due(name + "alike(" + op + ")", x.alike(op), wanted);
                }
                default -> Due.due(name + "width()", x.width(), w);
            }
        }
    }
}
