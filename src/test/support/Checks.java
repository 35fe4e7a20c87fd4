/** What the tests share: comparing answers, packing arguments, and objects that are easy to reason about. */
abstract class Checks {
    static final int MIN = Integer.MIN_VALUE;
    static final int MAX = Integer.MAX_VALUE;
    static final int ALL_SOURCES = 0;
    static final int ALL_GOALS = 56;
    static final int ALL_PORTS = 56;

    private static int wrong = 0;

    static void due(String call, int got, int want) {
        if (got != want) {
            fault(call + " answered " + got + ", due is " + want);
        }
    }

    static void fault(String what) {
        wrong++;
        System.out.println(what);
    }

    static int wrongSoFar() {
        return wrong;
    }

    /** The last call of a test's main. */
    static void finish() {
        System.out.println(wrong == 0 ? "all answers are as due" : wrong + " answers are not as due");
        if (wrong != 0) {
            System.exit(1);
        }
    }

    static int packet(int source, int goal, int port) {
        return 64 * source + 8 * goal + port;
    }

    static int prefix(int value, int length) {
        return value + 16 * length;
    }

    static int range(int lo, int hi) {
        return lo + 8 * hi;
    }

    static int ports(int lo, int hi, int action) {
        return lo + 8 * hi + 64 * action;
    }

    /** The four binary digits of a source or of a prefix's value. */
    static String digits(int source) {
        return Integer.toBinaryString(16 + source).substring(1);
    }

    static PacketClassifier empty() {
        return new PacketClassifier();
    }

    /** An object whose rule r holds just for packet r, with action r mod 4. */
    static PacketClassifier single(int rules) {
        PacketClassifier x = new PacketClassifier();
        for (int r = 0; r < rules; r++) {
            x.insert(r, prefix(0, 4), range(r / 8, r / 8), ports(r % 8, r % 8, r % 4));
        }
        return x;
    }

    /** Rule 0 inside rule 1 inside rule 2, and beside them packets that none holds for. */
    static PacketClassifier nested() {
        PacketClassifier x = new PacketClassifier();
        insertNested(x);
        return x;
    }

    static void insertNested(PacketClassifier x) {
        x.insert(0, prefix(15, 4), range(7, 7), ports(7, 7, 3));
        x.insert(1, prefix(12, 2), range(6, 7), ports(6, 7, 0));
        x.insert(2, prefix(8, 1), range(4, 7), ports(4, 7, 2));
    }
}
