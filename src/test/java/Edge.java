/** What the tests of single sentences share: numbers at the edges of a width, and calls on new objects. */
final class Edge {
    static final int LEAST_INT = Integer.MIN_VALUE;
    static final int GREATEST_INT = Integer.MAX_VALUE;
    static final int[] WIDTHS = {2, 3, 4, 5, 6};
    static final int[] STYLES = {0, 1};

    /** Too small and too large, the nearest ones first. */
    static final int[] NO_OPERATIONS = {-1, 16, -2, 17, -16, 31, 32, LEAST_INT, LEAST_INT + 15, GREATEST_INT};

    private static final int[] TOPS = {0, 0, 3, 7, 15, 31, 63};
    private static final int[] LOWESTS = {0, 0, 2, 4, 8, 16, 32};

    private Edge() {
    }

    /** 2^w - 1, the greatest number; read with sign it is -1. */
    static int top(int w) {
        return TOPS[w];
    }

    /** The number whose signed reading is lowest: bit w - 1 alone. */
    static int lowest(int w) {
        return LOWESTS[w];
    }

    /** The number whose signed reading is highest. */
    static int highest(int w) {
        return LOWESTS[w] - 1;
    }

    static DatapathGates holding(int w, int style, int a, int b) {
        DatapathGates x = new DatapathGates(w, style);
        Due.due("w " + w + " style " + style + " operands(" + a + ", " + b + ")", x.operands(a, b), true);
        return x;
    }

    static void result(int w, int op, int a, int b, int want) {
        for (int style : STYLES) {
            String call = "w " + w + " style " + style + " on " + a + ", " + b + ": result(" + op + ")";
            Due.due(call, holding(w, style, a, b).result(op), want);
        }
    }

    static void alike(int w, int op, int a, int b, int want) {
        for (int style : STYLES) {
            String call = "w " + w + " style " + style + " on " + a + ", " + b + ": alike(" + op + ")";
            Due.due(call, holding(w, style, a, b).alike(op), want);
        }
    }

    static void holds(DatapathGates x, String when, int a, int b) {
        Due.due(when + ": first()", x.first(), a);
        Due.due(when + ": second()", x.second(), b);
    }
}
