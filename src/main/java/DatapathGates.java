/**
 * Arithmetic units made of gates.
 *
 * A bundle of wires is an int, one wire a bit. Inside the units a value passes through the gates
 * {@code & | ^ ~} and through wiring (shifts by a fixed number of places) alone; + and - only
 * count loops and places.
 */
public final class DatapathGates {
    public static final int BAD = -1;

    private static final int LEAST_WIDTH = 2;
    private static final int GREATEST_WIDTH = 6;
    private static final int OPERATIONS = 16;

    // More than twice the greatest width, so that a whole product fits and the top wire of a
    // difference is left over to tell whether something had to be borrowed.
    private static final int WIRES = 16;
    private static final int ALL_WIRES = 0xFFFF;
    // Doubling the reach this many times spans all the wires.
    private static final int DOUBLINGS = 4;
    // A shift amount is below the greatest width, so three wires hold it.
    private static final int AMOUNT_WIRES = 3;

    private final int w;
    private final int numberWires;
    private final boolean carriesInTree;
    private int a;
    private int b;

    public DatapathGates(int width, int style) {
        w = width < LEAST_WIDTH ? LEAST_WIDTH : width > GREATEST_WIDTH ? GREATEST_WIDTH : width;
        numberWires = (1 << w) - 1;
        carriesInTree = style != 0;
        a = 0;
        b = 0;
    }

    public boolean operands(int a, int b) {
        if (!isNumber(a) || !isNumber(b)) {
            return false;
        }
        this.a = a;
        this.b = b;
        return true;
    }

    public int result(int op) {
        return isOperation(op) ? outcome(op, a, b) : BAD;
    }

    public int bit(int op, int i) {
        if (!isOperation(op) || i < 0 || i >= w) {
            return BAD;
        }
        return outcome(op, a, b) >> i & 1;
    }

    public int feed(int op) {
        if (!isOperation(op)) {
            return BAD;
        }
        a = outcome(op, a, b);
        return a;
    }

    public void swap() {
        int formerFirst = a;
        a = b;
        b = formerFirst;
    }

    public int first() {
        return a;
    }

    public int second() {
        return b;
    }

    public int alike(int op) {
        if (!isOperation(op)) {
            return BAD;
        }
        int wanted = outcome(op, a, b);
        int count = 0;
        for (int x = 0; x <= numberWires; x++) {
            if (outcome(op, x, b) == wanted) {
                count++;
            }
        }
        return count;
    }

    public int width() {
        return w;
    }

    private boolean isNumber(int value) {
        return value >= 0 && value <= numberWires;
    }

    private static boolean isOperation(int op) {
        return op >= 0 && op < OPERATIONS;
    }

    private int outcome(int op, int x, int y) {
        int signWire = 1 << w - 1;
        // Turning the sign wire over puts the signed readings into the order of plain numbers.
        int signedBelow = below(x ^ signWire, y ^ signWire);
        int plainBelow = below(x, y);
        int amount = shiftAmount(y);
        switch (op) {
            case 0: return sum(x, y, 0) & numberWires;
            case 1: return difference(x, y) & numberWires;
            case 2: return product(x, y) & numberWires;
            case 3: return product(x, y) >> w;
            case 4: return plainBelow;
            case 5: return signedBelow;
            case 6: return shiftedLeft(x, amount) & numberWires;
            case 7: return shiftedRight(x, amount);
            case 8: return shiftedRightWithSign(x, amount);
            case 9: return turnedLeft(x, amount);
            case 10: return choose(plainBelow, x, y);
            case 11: return choose(signedBelow, y, x);
            case 12: return onesIn(x);
            case 13: return zerosAbove(x);
            case 14: return withoutSign(x);
            case 15: return sum(x, y, 0) >> 1;
            default: return BAD;
        }
    }

    private int sum(int x, int y, int carryIn) {
        int make = x & y;
        int pass = x ^ y;
        int carries = carriesInTree
            ? treeCarries(make, pass, carryIn)
            : runningCarries(make, pass, carryIn);
        return (pass ^ carries) & ALL_WIRES;
    }

    private static int runningCarries(int make, int pass, int carryIn) {
        int carries = carryIn;
        for (int i = 0; i < WIRES; i++) {
            int carryOut = (make | pass & carries) & 1 << i;
            carries |= carryOut << 1;
        }
        return carries;
    }

    private static int treeCarries(int make, int pass, int carryIn) {
        // With the carry in taken as made at wire 0, nothing passes in from below the lowest wire.
        int made = make | pass & carryIn;
        int passed = pass;
        for (int level = 0; level < DOUBLINGS; level++) {
            int reach = 1 << level;
            made |= passed & made << reach;
            passed &= passed << reach;
        }
        return made << 1 | carryIn;
    }

    private int difference(int x, int y) {
        return sum(x, ~y & ALL_WIRES, 1);
    }

    private int below(int x, int y) {
        return difference(x, y) >> WIRES - 1;
    }

    private int product(int x, int y) {
        int total = 0;
        for (int i = 0; i < w; i++) {
            int row = x << i & spread(y >> i & 1);
            total = sum(total, row, 0);
        }
        return total;
    }

    /** y modulo the width: long division, which keeps the rest and drops the quotient. */
    private int shiftAmount(int y) {
        int rest = y;
        for (int i = w - 1; i >= 0; i--) {
            int less = difference(rest, w << i);
            int borrowed = less >> WIRES - 1;
            rest = choose(borrowed, rest, less);
        }
        return rest;
    }

    private static int shiftedLeft(int x, int amount) {
        int shifted = x;
        for (int i = 0; i < AMOUNT_WIRES; i++) {
            shifted = choose(amount >> i & 1, shifted << (1 << i), shifted);
        }
        return shifted;
    }

    private static int shiftedRight(int x, int amount) {
        int shifted = x;
        for (int i = 0; i < AMOUNT_WIRES; i++) {
            shifted = choose(amount >> i & 1, shifted >> (1 << i), shifted);
        }
        return shifted;
    }

    private int shiftedRightWithSign(int x, int amount) {
        int copies = spread(x >> w - 1) & ~numberWires;
        return shiftedRight(x | copies, amount) & numberWires;
    }

    private int turnedLeft(int x, int amount) {
        int shifted = shiftedLeft(x, amount);
        return (shifted | shifted >> w) & numberWires;
    }

    private int onesIn(int x) {
        int total = 0;
        for (int i = 0; i < w; i++) {
            total = sum(total, x >> i & 1, 0);
        }
        return total & numberWires;
    }

    private int zerosAbove(int x) {
        int total = 0;
        int noneYet = 1;
        for (int i = w - 1; i >= 0; i--) {
            noneYet &= ~(x >> i);
            total = sum(total, noneYet, 0);
        }
        return total & numberWires;
    }

    private int withoutSign(int x) {
        int negated = difference(0, x) & numberWires;
        return choose(x >> w - 1, negated, x);
    }

    private static int choose(int select, int ifOne, int ifZero) {
        int selected = spread(select);
        return ifOne & selected | ifZero & ~selected & ALL_WIRES;
    }

    private static int spread(int wire) {
        int wires = wire;
        for (int level = 0; level < DOUBLINGS; level++) {
            wires |= wires << (1 << level);
        }
        return wires;
    }
}
