/** A call of every kind that is refused, whatever the object's width and operands. */
final class Refused {
    static final int KINDS = 18;

    private Refused() {
    }

    /** Makes the call, looks at its answer, and tells its name. Takes one call of the object beside width(). */
    static String call(DatapathGates x, int kind) {
        return call(x, x.width(), kind);
    }

    /** Takes one call of the object. */
    static String call(DatapathGates x, int w, int kind) {
        int above = Edge.top(w) + 1;
        return switch (kind) {
            case 0 -> operands(x, -1, 0);
            case 1 -> operands(x, 0, -1);
            case 2 -> operands(x, above, 3);
            case 3 -> operands(x, 3, above);
            case 4 -> operands(x, above, -1);
            case 5 -> operands(x, Edge.GREATEST_INT, Edge.LEAST_INT);
            case 6 -> answered("result(-1)", x.result(-1));
            case 7 -> answered("result(16)", x.result(16));
            case 8 -> answered("bit(-1, 0)", x.bit(-1, 0));
            case 9 -> answered("bit(16, 0)", x.bit(16, 0));
            case 10 -> answered("bit(0, -1)", x.bit(0, -1));
            case 11 -> answered("bit(0, w)", x.bit(0, w));
            case 12 -> answered("bit(16, w)", x.bit(16, w));
            case 13 -> answered("feed(-1)", x.feed(-1));
            case 14 -> answered("feed(16)", x.feed(16));
            case 15 -> answered("feed(the greatest int)", x.feed(Edge.GREATEST_INT));
            case 16 -> answered("alike(-1)", x.alike(-1));
            case 17 -> answered("alike(16)", x.alike(16));
            default -> throw new IllegalArgumentException("no kind " + kind);
        };
    }

    private static String operands(DatapathGates x, int a, int b) {
        String name = "operands(" + a + ", " + b + ")";
        Due.due(name, x.operands(a, b), false);
        return name;
    }

    private static String answered(String name, int got) {
        Due.due(name, got, -1);
        return name;
    }
}
