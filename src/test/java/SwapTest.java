/** Promises 6, 7 and 8: swap exchanges the operands, which first and second answer. */
public final class SwapTest {
    public static void main(String[] args) {
        for (int style = 0; style <= 1; style++) {
            for (int w = 2; w <= 6; w++) {
                onAllNumbers(w, style);
            }
        }
        resultsFollow();
        Due.finish();
    }

    private static void onAllNumbers(int w, int style) {
        for (int a = 0; a < Reference.count(w); a++) {
            for (int b = 0; b < Reference.count(w); b++) {
                DatapathGates x = new DatapathGates(w, style);
                x.operands(a, b);
                x.swap();
                holds(x, "swapped once", b, a);
                x.swap();
                holds(x, "swapped twice", a, b);
                Due.due("width() after swap", x.width(), w);
            }
        }
    }

    private static void resultsFollow() {
        DatapathGates x = new DatapathGates(5, 0);
        x.swap();
        holds(x, "a new object swapped", 0, 0);
        x.operands(4, 9);
        x.swap();
        Due.due("result(1)", x.result(1), 5);
        Due.due("feed(0)", x.feed(0), 13);
        holds(x, "swapped and fed", 13, 4);
        x.swap();
        holds(x, "swapped, fed and swapped", 4, 13);
    }

    private static void holds(DatapathGates x, String when, int a, int b) {
        Due.due(when + ": first()", x.first(), a);
        Due.due(when + ": second()", x.second(), b);
    }
}
