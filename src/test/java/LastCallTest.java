/** "An object is used for at most 512 calls after it has been made": every promise holds up to the 512th. */
public final class LastCallTest {
    private static final int MOST_CALLS = 512;
    private static final String LAST = "at most 512 calls, the 512th: ";

    public static void main(String[] args) {
        Due.sentence(LAST + "operands", LastCallTest::operands);
        Due.sentence(LAST + "result", LastCallTest::result);
        Due.sentence(LAST + "bit", LastCallTest::bit);
        Due.sentence(LAST + "feed", LastCallTest::feed);
        Due.sentence(LAST + "swap", LastCallTest::swap);
        Due.sentence(LAST + "first", LastCallTest::first);
        Due.sentence(LAST + "second", LastCallTest::second);
        Due.sentence(LAST + "alike", LastCallTest::alike);
        Due.sentence(LAST + "width", LastCallTest::width);
        Due.sentence(LAST + "a refused call changes nothing", LastCallTest::refused);
        Due.sentence("at most 512 calls: 512 of one kind", LastCallTest::allOfOneKind);
        Due.finish();
    }

    /** An object on which so many calls of all kinds have been made, the last one operands(a, b). */
    private static DatapathGates used(int calls, int w, int style, int a, int b) {
        DatapathGates x = new DatapathGates(w, style);
        for (int call = 0; call < calls - 1; call++) {
            useOnce(x, w, call);
        }
        Due.due("w " + w + " call " + calls + ": operands(" + a + ", " + b + ")", x.operands(a, b), true);
        return x;
    }

    private static void useOnce(DatapathGates x, int w, int call) {
        int turn = call / 10;
        switch (call % 10) {
            case 0 -> x.operands(turn % (Edge.top(w) + 1), Edge.top(w));
            case 1 -> x.result(turn % 16);
            case 2 -> x.bit(turn % 16, turn % w);
            case 3 -> x.feed(turn % 16);
            case 4 -> x.swap();
            case 5 -> x.first();
            case 6 -> x.second();
            case 7 -> x.alike(turn % 16);
            case 8 -> x.width();
            default -> Refused.call(x, w, turn % Refused.KINDS);
        }
    }

    private static void operands() {
        for (int w : Edge.WIDTHS) {
            int top = Edge.top(w);
            for (int style : Edge.STYLES) {
                used(MOST_CALLS, w, style, top, 0);
                used(MOST_CALLS, w, style, 0, top);
                Due.due("first() at last", used(MOST_CALLS - 1, w, style, top, 1).first(), top);
                Due.due("second() at last", used(MOST_CALLS - 1, w, style, 1, top).second(), top);
            }
        }
    }

    private static void result() {
        for (int w : Edge.WIDTHS) {
            for (int style : Edge.STYLES) {
                for (int op = -1; op <= 16; op++) {
                    int wanted = op < 0 || op > 15 ? -1 : Reference.result(w, op, Edge.top(w), 1);
                    DatapathGates x = used(MOST_CALLS - 1, w, style, Edge.top(w), 1);
                    Due.due("w " + w + " at last result(" + op + ")", x.result(op), wanted);
                }
            }
        }
    }

    private static void bit() {
        for (int w : Edge.WIDTHS) {
            for (int i = -1; i <= w; i++) {
                DatapathGates x = used(MOST_CALLS - 1, w, i & 1, Edge.lowest(w), 0);
                int wanted = i < 0 || i >= w ? -1 : i == w - 1 ? 1 : 0;
                Due.due("w " + w + " at last bit(0, " + i + ")", x.bit(0, i), wanted);
            }
            Due.due("at last bit(-1, 0)", used(MOST_CALLS - 1, w, 0, 1, 0).bit(-1, 0), -1);
            Due.due("at last bit(16, 0)", used(MOST_CALLS - 1, w, 1, 1, 0).bit(16, 0), -1);
        }
    }

    private static void feed() {
        for (int w : Edge.WIDTHS) {
            int top = Edge.top(w);
            for (int style : Edge.STYLES) {
                Due.due("at last feed(0)", used(MOST_CALLS - 1, w, style, top, 1).feed(0), 0);
                Due.due("at last feed(1)", used(MOST_CALLS - 1, w, style, 0, 1).feed(1), top);
                Due.due("at last feed(-1)", used(MOST_CALLS - 1, w, style, 0, 1).feed(-1), -1);
                Due.due("at last feed(16)", used(MOST_CALLS - 1, w, style, 0, 1).feed(16), -1);
                DatapathGates x = used(MOST_CALLS - 2, w, style, 0, 1);
                Due.due("feed(1)", x.feed(1), top);
                Due.due("at last first() behind feed", x.first(), top);
                DatapathGates y = used(MOST_CALLS - 2, w, style, 0, 1);
                Due.due("feed(1)", y.feed(1), top);
                Due.due("at last second() behind feed", y.second(), 1);
            }
        }
    }

    private static void swap() {
        for (int w : Edge.WIDTHS) {
            for (int style : Edge.STYLES) {
                DatapathGates x = used(MOST_CALLS - 2, w, style, 1, 2);
                x.swap();
                Due.due("at last first() behind swap", x.first(), 2);
                DatapathGates y = used(MOST_CALLS - 2, w, style, 1, 2);
                y.swap();
                Due.due("at last second() behind swap", y.second(), 1);
                // what the 512th swap does cannot be asked any more, but it ends
                used(MOST_CALLS - 1, w, style, 1, 2).swap();
            }
        }
    }

    private static void first() {
        for (int w : Edge.WIDTHS) {
            for (int style : Edge.STYLES) {
                Due.due("at last first()", used(MOST_CALLS - 1, w, style, Edge.top(w), 0).first(), Edge.top(w));
                Due.due("at last first()", used(MOST_CALLS - 1, w, style, 0, Edge.top(w)).first(), 0);
            }
        }
    }

    private static void second() {
        for (int w : Edge.WIDTHS) {
            for (int style : Edge.STYLES) {
                Due.due("at last second()", used(MOST_CALLS - 1, w, style, Edge.top(w), 0).second(), 0);
                Due.due("at last second()", used(MOST_CALLS - 1, w, style, 0, Edge.top(w)).second(), Edge.top(w));
            }
        }
    }

    private static void alike() {
        for (int w : Edge.WIDTHS) {
            for (int style : Edge.STYLES) {
                Due.due("at last alike(2)", used(MOST_CALLS - 1, w, style, 1, 0).alike(2), Edge.top(w) + 1);
                Due.due("at last alike(0)", used(MOST_CALLS - 1, w, style, 1, 0).alike(0), 1);
                Due.due("at last alike(-1)", used(MOST_CALLS - 1, w, style, 1, 0).alike(-1), -1);
                Due.due("at last alike(16)", used(MOST_CALLS - 1, w, style, 1, 0).alike(16), -1);
            }
        }
    }

    private static void width() {
        for (int w : Edge.WIDTHS) {
            for (int style : Edge.STYLES) {
                Due.due("at last width()", used(MOST_CALLS - 1, w, style, 1, 0).width(), w);
            }
        }
    }

    private static void refused() {
        for (int w : Edge.WIDTHS) {
            for (int kind = 0; kind < Refused.KINDS; kind++) {
                Refused.call(used(MOST_CALLS - 1, w, kind % 2, 1, 2), w, kind);
                DatapathGates x = used(MOST_CALLS - 2, w, kind % 2, 1, 2);
                String call = Refused.call(x, w, kind);
                Due.due("at last first() behind " + call, x.first(), 1);
                DatapathGates y = used(MOST_CALLS - 2, w, kind % 2, 1, 2);
                Refused.call(y, w, kind);
                Due.due("at last second() behind " + call, y.second(), 2);
            }
        }
    }

    private static void allOfOneKind() {
        for (int w : Edge.WIDTHS) {
            for (int style : Edge.STYLES) {
                allSwaps(w, style);
                allFeeds(w, style);
                allOperands(w, style);
                allAlikes(w, style);
            }
        }
    }

    private static void allSwaps(int w, int style) {
        DatapathGates x = Edge.holding(w, style, 1, 2);
        for (int call = 2; call < MOST_CALLS; call++) {
            x.swap();
        }
        // 510 swaps put the operands back
        Due.due("w " + w + " first() behind 510 swaps", x.first(), 1);
    }

    private static void allFeeds(int w, int style) {
        DatapathGates x = Edge.holding(w, style, 0, 1);
        for (int call = 2; call <= MOST_CALLS; call++) {
            Due.due("w " + w + " call " + call + ": feed(0)", x.feed(0), (call - 1) % (Edge.top(w) + 1));
        }
    }

    private static void allOperands(int w, int style) {
        DatapathGates x = new DatapathGates(w, style);
        for (int call = 1; call <= MOST_CALLS; call++) {
            int n = call % (Edge.top(w) + 3) - 1;
            Due.due("w " + w + " call " + call + ": operands(" + n + ", 0)", x.operands(n, 0), n >= 0 && n <= Edge.top(w));
        }
    }

    private static void allAlikes(int w, int style) {
        DatapathGates x = new DatapathGates(w, style);
        for (int call = 1; call <= MOST_CALLS; call++) {
            Due.due("w " + w + " call " + call + ": alike(2)", x.alike(2), Edge.top(w) + 1);
        }
    }
}
