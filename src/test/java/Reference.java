/** The operations of the document in ordinary arithmetic, to hold the gates against. */
final class Reference {
    static final int OPERATIONS = 16;

    private Reference() {
    }

    static int count(int w) {
        return (int) Math.pow(2, w);
    }

    static int signed(int w, int n) {
        return n >= count(w) / 2 ? n - count(w) : n;
    }

    static int result(int w, int op, int a, int b) {
        return Math.floorMod(uncut(w, op, a, b), count(w));
    }

    private static int uncut(int w, int op, int a, int b) {
        int places = b % w;
        return switch (op) {
            case 0 -> a + b;
            case 1 -> a - b;
            case 2 -> a * b;
            case 3 -> a * b / count(w);
            case 4 -> a < b ? 1 : 0;
            case 5 -> signed(w, a) < signed(w, b) ? 1 : 0;
            case 6 -> a * count(places);
            case 7 -> a / count(places);
            case 8 -> Math.floorDiv(signed(w, a), count(places));
            case 9 -> turned(w, a, places);
            case 10 -> Math.min(a, b);
            case 11 -> Math.floorMod(Math.max(signed(w, a), signed(w, b)), count(w));
            case 12 -> Integer.bitCount(a);
            case 13 -> Integer.numberOfLeadingZeros(a) - (32 - w);
            case 14 -> Math.abs(signed(w, a));
            case 15 -> (a + b) / 2;
            default -> throw new IllegalArgumentException("no operation " + op);
        };
    }

    private static int turned(int w, int a, int places) {
        int turned = a;
        for (int i = 0; i < places; i++) {
            int doubled = turned * 2;
            turned = doubled >= count(w) ? doubled - count(w) + 1 : doubled;
        }
        return turned;
    }

    static int alike(int w, int op, int a, int b) {
        int alike = 0;
        for (int x = 0; x < count(w); x++) {
            if (result(w, op, x, b) == result(w, op, a, b)) {
                alike++;
            }
        }
        return alike;
    }
}
