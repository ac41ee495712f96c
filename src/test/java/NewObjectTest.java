/** Promises 1 and 10: the width is clamped, the operands are 0, and the style shows in no answer. */
public final class NewObjectTest {
    private static final int[] STYLES = {0, 1, 2, -1, 16, Integer.MIN_VALUE, Integer.MAX_VALUE};

    public static void main(String[] args) {
        int[][] widths = {
            {Integer.MIN_VALUE, 2}, {-3, 2}, {-1, 2}, {0, 2}, {1, 2}, {2, 2}, {3, 3}, {4, 4},
            {5, 5}, {6, 6}, {7, 6}, {8, 6}, {32, 6}, {34, 6}, {Integer.MAX_VALUE, 6}};
        for (int[] pair : widths) {
            for (int style : STYLES) {
                startsAsSaid(pair[0], style, pair[1]);
            }
        }
        for (int w = 2; w <= 6; w++) {
            for (int style : STYLES) {
                styleShowsNowhere(w, style);
            }
        }
        objectsAreApart();
        Due.finish();
    }

    private static void startsAsSaid(int width, int style, int w) {
        String name = "new(" + width + ", " + style + ").";
        DatapathGates x = new DatapathGates(width, style);
        Due.due(name + "width()", x.width(), w);
        Due.due(name + "first()", x.first(), 0);
        Due.due(name + "second()", x.second(), 0);
        for (int op = 0; op < Reference.OPERATIONS; op++) {
            Due.due(name + "result(" + op + ")", x.result(op), Reference.result(w, op, 0, 0));
        }
        int top = Reference.count(w) - 1;
        Due.due(name + "operands(top + 1, 0)", x.operands(top + 1, 0), false);
        Due.due(name + "operands(top, top)", x.operands(top, top), true);
        Due.due(name + "width() later", x.width(), w);
    }

    private static void styleShowsNowhere(int w, int style) {
        for (int a = 0; a < Reference.count(w); a++) {
            for (int b = 0; b < Reference.count(w); b++) {
                DatapathGates running = new DatapathGates(w, 0);
                DatapathGates other = new DatapathGates(w, style);
                Due.due("operands", other.operands(a, b), running.operands(a, b));
                for (int op = -1; op <= Reference.OPERATIONS; op++) {
                    String call = "w " + w + " style " + style + " on " + a + ", " + b + ": result(" + op + ")";
                    Due.due(call, other.result(op), running.result(op));
                }
            }
        }
    }

    private static void objectsAreApart() {
        DatapathGates x = new DatapathGates(3, 0);
        DatapathGates y = new DatapathGates(5, 1);
        x.operands(5, 6);
        y.operands(30, 9);
        Due.due("x.width()", x.width(), 3);
        Due.due("x.first()", x.first(), 5);
        Due.due("x.result(0)", x.result(0), 3);
        Due.due("y.width()", y.width(), 5);
        Due.due("y.second()", y.second(), 9);
        Due.due("y.result(0)", y.result(0), 7);
    }
}
