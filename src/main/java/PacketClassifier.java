/** Packets of three fields, rules that are tried in order, and which rule decides which packets. */
public final class PacketClassifier {
    public static final int BAD_ARG = -1;
    public static final int FULL = -2;
    public static final int NONE = -4;

    private static final int MAX_RULES = 10;
    private static final int PACKETS = 1024;
    private static final int PREFIXES = 80;
    private static final int GOAL_RANGES = 64;
    private static final int PORT_RANGES_WITH_ACTION = 256;
    private static final int ACTIONS = 4;
    private static final int SOURCE_DIGITS = 4;

    // A rule is kept as the three numbers that insert was given: they say all of it.
    private final int[] prefixes = new int[MAX_RULES];
    private final int[] goalRanges = new int[MAX_RULES];
    private final int[] portsAndActions = new int[MAX_RULES];
    private int ruleCount;

    public PacketClassifier() {
        ruleCount = 0;
    }

    public int insert(int at, int prefix, int goals, int portsAndAction) {
        if (at < 0 || at > ruleCount) {
            return BAD_ARG;
        }
        if (prefix < 0 || prefix >= PREFIXES) {
            return BAD_ARG;
        }
        if (goals < 0 || goals >= GOAL_RANGES || low(goals) > high(goals)) {
            return BAD_ARG;
        }
        if (portsAndAction < 0 || portsAndAction >= PORT_RANGES_WITH_ACTION
                || low(portsAndAction) > high(portsAndAction)) {
            return BAD_ARG;
        }
        if (ruleCount >= MAX_RULES) {
            return FULL;
        }
        // From the end, so that no rule is written over before it has been moved.
        for (int r = ruleCount; r > at; r--) {
            copyRule(r - 1, r);
        }
        prefixes[at] = prefix;
        goalRanges[at] = goals;
        portsAndActions[at] = portsAndAction;
        ruleCount++;
        return ruleCount;
    }

    public int remove(int r) {
        if (!isRule(r)) {
            return NONE;
        }
        for (int to = r; to < ruleCount - 1; to++) {
            copyRule(to + 1, to);
        }
        ruleCount--;
        return ruleCount;
    }

    public int swap(int r, int s) {
        if (!isRule(r) || !isRule(s)) {
            return NONE;
        }
        int prefix = prefixes[r];
        int goals = goalRanges[r];
        int portsAndAction = portsAndActions[r];
        copyRule(s, r);
        prefixes[s] = prefix;
        goalRanges[s] = goals;
        portsAndActions[s] = portsAndAction;
        return 0;
    }

    public int rules() {
        return ruleCount;
    }

    public int decide(int p) {
        if (!isPacket(p)) {
            return BAD_ARG;
        }
        return firstHolding(p, 0);
    }

    public int action(int p) {
        if (!isPacket(p)) {
            return BAD_ARG;
        }
        int decider = firstHolding(p, 0);
        return actionOrNone(decider);
    }

    public int holding(int p) {
        if (!isPacket(p)) {
            return BAD_ARG;
        }
        int set = 0;
        for (int r = 0; r < ruleCount; r++) {
            if (holds(r, p)) {
                set |= 1 << r;
            }
        }
        return set;
    }

    public int reach(int r) {
        if (!isRule(r)) {
            return NONE;
        }
        int packets = 0;
        for (int p = 0; p < PACKETS; p++) {
            if (holds(r, p)) {
                packets++;
            }
        }
        return packets;
    }

    public int decided(int r) {
        if (!isRule(r)) {
            return NONE;
        }
        return countDecidedBy(r);
    }

    public int undecided() {
        return countDecidedBy(NONE);
    }

    public int acted(int action) {
        if (action < 0 || action >= ACTIONS) {
            return BAD_ARG;
        }
        int packets = 0;
        for (int p = 0; p < PACKETS; p++) {
            int decider = firstHolding(p, 0);
            if (actionOrNone(decider) == action) {
                packets++;
            }
        }
        return packets;
    }

    public int idle() {
        int idleRules = 0;
        for (int r = 0; r < ruleCount; r++) {
            if (countDecidedBy(r) == 0) {
                idleRules++;
            }
        }
        return idleRules;
    }

    public int weight(int r) {
        if (!isRule(r)) {
            return NONE;
        }
        int packets = 0;
        for (int p = 0; p < PACKETS; p++) {
            // Only the packets that r decides can change, and the next rule that holds takes them over.
            if (firstHolding(p, 0) == r) {
                int heir = firstHolding(p, r + 1);
                if (actionOrNone(heir) != actionOrNone(r)) {
                    packets++;
                }
            }
        }
        return packets;
    }

    public int next(int r, int from) {
        if (!isRule(r)) {
            return NONE;
        }
        int first = from < 0 ? 0 : from;
        for (int p = first; p < PACKETS; p++) {
            if (firstHolding(p, 0) == r) {
                return p;
            }
        }
        return NONE;
    }

    public int deepest() {
        int most = 0;
        for (int p = 0; p < PACKETS; p++) {
            int depth = countHolding(p);
            if (depth > most) {
                most = depth;
            }
        }
        return most;
    }

    private boolean isRule(int r) {
        return r >= 0 && r < ruleCount;
    }

    private static boolean isPacket(int p) {
        return p >= 0 && p < PACKETS;
    }

    private static int low(int range) {
        return range & 7;
    }

    // The mask leaves out the action, which stands above the range of ports.
    private static int high(int range) {
        return (range >> 3) & 7;
    }

    private static boolean prefixHolds(int prefix, int source) {
        int value = prefix & 15;
        int free = SOURCE_DIGITS - (prefix >> 4);
        return (source >> free) == (value >> free);
    }

    private boolean holds(int r, int p) {
        int source = p >> 6;
        int goal = (p >> 3) & 7;
        int port = p & 7;
        int goals = goalRanges[r];
        int ports = portsAndActions[r];
        return prefixHolds(prefixes[r], source)
                && low(goals) <= goal && goal <= high(goals)
                && low(ports) <= port && port <= high(ports);
    }

    /** The least rule, from the given number on, that holds for packet p; NONE if there is none. */
    private int firstHolding(int p, int from) {
        for (int r = from; r < ruleCount; r++) {
            if (holds(r, p)) {
                return r;
            }
        }
        return NONE;
    }

    /** The action of rule r, or NONE, which is no action, where firstHolding found no rule. */
    private int actionOrNone(int r) {
        if (!isRule(r)) {
            return NONE;
        }
        return portsAndActions[r] >> 6;
    }

    /** How many packets have this decider, which is NONE for the undecided ones. */
    private int countDecidedBy(int decider) {
        int packets = 0;
        for (int p = 0; p < PACKETS; p++) {
            if (firstHolding(p, 0) == decider) {
                packets++;
            }
        }
        return packets;
    }

    private int countHolding(int p) {
        int holders = 0;
        for (int r = 0; r < ruleCount; r++) {
            if (holds(r, p)) {
                holders++;
            }
        }
        return holders;
    }

    private void copyRule(int from, int to) {
        prefixes[to] = prefixes[from];
        goalRanges[to] = goalRanges[from];
        portsAndActions[to] = portsAndActions[from];
    }
}
