/** Promise 11: a call that is refused changes nothing, for each reason and each kind of call by itself. */
public final class RefusedEdgesTest {
    private static final String CHANGES_NOTHING = "11: A call that is refused changes nothing, ";

    public static void main(String[] args) {
        Due.sentence(CHANGES_NOTHING + "operands with a number not as said there", () -> kinds(0, 5));
        Due.sentence(CHANGES_NOTHING + "result of an operation that is not there", () -> kinds(6, 7));
        Due.sentence(CHANGES_NOTHING + "bit of an operation that is not there", () -> kinds(8, 9));
        Due.sentence(CHANGES_NOTHING + "bit that is not there", () -> kinds(10, 12));
        Due.sentence(CHANGES_NOTHING + "feed of an operation that is not there", () -> kinds(13, 15));
        Due.sentence(CHANGES_NOTHING + "alike of an operation that is not there", () -> kinds(16, 17));
        Due.sentence(CHANGES_NOTHING + "many in a row", RefusedEdgesTest::manyInARow);
        Due.sentence(CHANGES_NOTHING + "on a new object", RefusedEdgesTest::onNew);
        Due.sentence(CHANGES_NOTHING + "and the next call is taken", RefusedEdgesTest::nextIsTaken);
        Due.finish();
    }

    private static void kinds(int least, int greatest) {
        for (int w : Edge.WIDTHS) {
            int top = Edge.top(w);
            for (int[] pair : new int[][] {{0, top}, {top, 0}, {1, 2}, {Edge.lowest(w), Edge.highest(w)}}) {
                for (int kind = least; kind <= greatest; kind++) {
                    for (int style : Edge.STYLES) {
                        DatapathGates x = Edge.holding(w, style, pair[0], pair[1]);
                        String call = Refused.call(x, w, kind);
                        isUntouched(x, w, call, pair[0], pair[1]);
                    }
                }
            }
        }
    }

    /** Everything that an object shows: the operands, the width, and all that hangs on them. */
    private static void isUntouched(DatapathGates x, int w, String call, int a, int b) {
        String name = "w " + w + " behind " + call;
        Edge.holds(x, name, a, b);
        Due.due(name + ": width()", x.width(), w);
        for (int op = 0; op < 16; op++) {
            int result = Reference.result(w, op, a, b);
            Due.due(name + ": result(" + op + ")", x.result(op), result);
            Due.due(name + ": bit(" + op + ", 0)", x.bit(op, 0), result % 2);
            Due.due(name + ": alike(" + op + ")", x.alike(op), Reference.alike(w, op, a, b));
        }
        x.swap();
        Edge.holds(x, name + " and swapped", b, a);
    }

    private static void manyInARow() {
        for (int w : Edge.WIDTHS) {
            for (int kind = 0; kind < Refused.KINDS; kind++) {
                DatapathGates x = Edge.holding(w, kind % 2, 1, 2);
                String call = "";
                for (int times = 0; times < 400; times++) {
                    call = Refused.call(x, w, kind);
                }
                isUntouched(x, w, "400 times " + call, 1, 2);
            }
        }
    }

    private static void onNew() {
        for (int w : Edge.WIDTHS) {
            for (int kind = 0; kind < Refused.KINDS; kind++) {
                DatapathGates x = new DatapathGates(w, kind % 2);
                String call = Refused.call(x, w, kind);
                isUntouched(x, w, call + " on a new object", 0, 0);
            }
        }
    }

    private static void nextIsTaken() {
        for (int w : Edge.WIDTHS) {
            for (int kind = 0; kind < Refused.KINDS; kind++) {
                DatapathGates x = Edge.holding(w, kind % 2, 1, 2);
                String call = "w " + w + " behind " + Refused.call(x, w, kind);
                Due.due(call + ": feed(0)", x.feed(0), 3);
                call = "w " + w + " behind " + Refused.call(x, w, kind);
                x.swap();
                Edge.holds(x, call + ": swap()", 2, 3);
                call = "w " + w + " behind " + Refused.call(x, w, kind);
                Due.due(call + ": operands", x.operands(Edge.top(w), 0), true);
                Edge.holds(x, call + ": operands", Edge.top(w), 0);
            }
        }
    }
}
