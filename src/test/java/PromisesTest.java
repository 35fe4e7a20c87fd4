/**
 * Each promise of the document on its own: what the calls do. What they refuse, and the edges between the two,
 * stand in BoundariesTest.
 */
public final class PromisesTest extends Checks {
    /** Tells which rule of single() stands at which number: packet was[i] must now be decided by rule i. */
    private static void dueOrder(String when, PacketClassifier x, int... was) {
        due(when + ", rules()", x.rules(), was.length);
        for (int r = 0; r < was.length; r++) {
            due(when + ", decide(" + was[r] + ")", x.decide(was[r]), r);
            due(when + ", action(" + was[r] + ")", x.action(was[r]), was[r] % 4);
            due(when + ", next(" + r + ", 0)", x.next(r, 0), was[r]);
            due(when + ", reach(" + r + ")", x.reach(r), 1);
        }
        due(when + ", undecided()", x.undecided(), 1024 - was.length);
    }

    private static void constants() {
        due("BAD_ARG", PacketClassifier.BAD_ARG, -1);
        due("FULL", PacketClassifier.FULL, -2);
        due("NONE", PacketClassifier.NONE, -4);
    }

    /** Promise 1: "No rule." */
    private static void promise1NewObject() {
        PacketClassifier x = new PacketClassifier();
        due("new: rules()", x.rules(), 0);
        due("new: undecided()", x.undecided(), 1024);
        due("new: idle()", x.idle(), 0);
        due("new: deepest()", x.deepest(), 0);
        for (int action = 0; action < 4; action++) {
            due("new: acted(" + action + ")", x.acted(action), 0);
        }
        for (int p = 0; p < 1024; p++) {
            duePacket("new", new PacketClassifier(), p, -4, -4, 0);
        }
        PacketClassifier y = single(3);
        due("another object: rules()", y.rules(), 3);
        due("new, after another was filled: rules()", x.rules(), 0);
        due("new, after another was filled: decide(0)", x.decide(0), -4);
    }

    private static void promise2InsertMovesTheRest() {
        PacketClassifier x = new PacketClassifier();
        due("insert at 0", x.insert(0, prefix(0, 4), range(0, 0), ports(2, 2, 2)), 1);
        due("insert at the end", x.insert(1, prefix(0, 4), range(0, 0), ports(3, 3, 3)), 2);
        due("insert at the front", x.insert(0, prefix(0, 4), range(0, 0), ports(0, 0, 0)), 3);
        due("insert between", x.insert(1, prefix(0, 4), range(0, 0), ports(1, 1, 1)), 4);
        dueOrder("after four inserts", x, 0, 1, 2, 3);
        due("insert at 2", x.insert(2, prefix(0, 4), range(0, 0), ports(7, 7, 3)), 5);
        dueOrder("after the fifth", x, 0, 1, 7, 2, 3);
    }

    /** Promise 2 and Terms: a prefix's value is 0 to 15, its length 0 (every source) to 4 (one source). */
    private static void promise2EveryPrefix() {
        for (int value = 0; value < 16; value++) {
            for (int length = 0; length <= 4; length++) {
                PacketClassifier x = new PacketClassifier();
                int prefix = prefix(value, length);
                due("insert prefix " + prefix, x.insert(0, prefix, range(3, 3), ports(5, 5, 1)), 1);
                String head = digits(value).substring(0, length);
                for (int source = 0; source < 16; source++) {
                    int want = digits(source).startsWith(head) ? 1 : 0;
                    due("prefix " + prefix + " on source " + source, x.holding(packet(source, 3, 5)), want);
                }
                due("prefix " + prefix + ": reach(0)", x.reach(0), 1 << (4 - length));
            }
        }
    }

    /** Promise 2 and Terms: of a range "both ends" are "included", and an action is 0 to 3. */
    private static void promise2EveryRangeAndAction() {
        for (int hi = 0; hi < 8; hi++) {
            for (int lo = 0; lo <= hi; lo++) {
                oneRangeOfGoals(lo, hi);
                for (int action = 0; action < 4; action++) {
                    oneRangeOfPorts(lo, hi, action);
                }
            }
        }
    }

    private static void oneRangeOfGoals(int lo, int hi) {
        PacketClassifier x = new PacketClassifier();
        String call = "insert goals " + lo + " to " + hi;
        due(call, x.insert(0, prefix(9, 4), range(lo, hi), ports(2, 2, 0)), 1);
        for (int goal = 0; goal < 8; goal++) {
            int want = lo <= goal && goal <= hi ? 1 : 0;
            due(call + ", goal " + goal, x.holding(packet(9, goal, 2)), want);
        }
    }

    private static void oneRangeOfPorts(int lo, int hi, int action) {
        PacketClassifier x = new PacketClassifier();
        String call = "insert ports " + lo + " to " + hi + ", action " + action;
        due(call, x.insert(0, prefix(6, 4), range(4, 4), ports(lo, hi, action)), 1);
        for (int port = 0; port < 8; port++) {
            int want = lo <= port && port <= hi ? action : -4;
            due(call + ", port " + port, x.action(packet(6, 4, port)), want);
        }
    }

    private static void promise3Remove() {
        PacketClassifier x = single(10);
        due("remove(0), the first", x.remove(0), 9);
        due("remove(8), the last", x.remove(8), 8);
        due("remove(3), a middle one", x.remove(3), 7);
        dueOrder("after three removes", x, 1, 2, 3, 5, 6, 7, 8);
        due("decide of a removed rule's packet", x.decide(4), -4);
        for (int left = 6; left >= 0; left--) {
            due("remove(0) leaves", x.remove(0), left);
        }
        due("rules(), none left", x.rules(), 0);
    }

    private static void promise4Swap() {
        PacketClassifier x = single(5);
        due("swap(1, 3)", x.swap(1, 3), 0);
        dueOrder("after swap(1, 3)", x, 0, 3, 2, 1, 4);
        due("swap(4, 0)", x.swap(4, 0), 0);
        dueOrder("after swap(4, 0)", x, 4, 3, 2, 1, 0);
        due("swap(2, 2)", x.swap(2, 2), 0);
        dueOrder("after swap(2, 2)", x, 4, 3, 2, 1, 0);
    }

    /** A swap must carry the whole of a rule: here the rules differ in each part. */
    private static void promise4SwapCarriesAllParts() {
        PacketClassifier x = new PacketClassifier();
        x.insert(0, prefix(8, 1), range(1, 3), ports(2, 5, 1));
        x.insert(1, prefix(4, 2), range(5, 7), ports(0, 1, 2));
        due("swap(0, 1)", x.swap(0, 1), 0);
        due("reach(0)", x.reach(0), 4 * 3 * 2);
        due("reach(1)", x.reach(1), 8 * 3 * 4);
        due("next(0, 0)", x.next(0, 0), packet(4, 5, 0));
        due("next(1, 0)", x.next(1, 0), packet(8, 1, 2));
        due("action of rule 0", x.action(packet(7, 7, 1)), 2);
        due("action of rule 1", x.action(packet(15, 3, 5)), 1);
    }

    /** Promise 5 and Terms: from no rule to the "at most 10" of them. */
    private static void promise5Rules() {
        PacketClassifier x = new PacketClassifier();
        for (int n = 0; n < 10; n++) {
            due("rules()", x.rules(), n);
            due("insert", x.insert(n, ALL_SOURCES, ALL_GOALS, ports(0, 7, 0)), n + 1);
        }
        due("rules(), full", x.rules(), 10);
    }

    private static void promises6To8OnePacket() {
        PacketClassifier x = nested();
        duePacket("nested", x, packet(15, 7, 7), 0, 3, 7);
        duePacket("nested", x, packet(15, 7, 6), 1, 0, 6);
        duePacket("nested", x, packet(15, 6, 7), 1, 0, 6);
        duePacket("nested", x, packet(12, 6, 6), 1, 0, 6);
        duePacket("nested", x, packet(11, 7, 7), 2, 2, 4);
        duePacket("nested", x, packet(12, 5, 6), 2, 2, 4);
        duePacket("nested", x, packet(8, 4, 4), 2, 2, 4);
        duePacket("nested", x, packet(7, 7, 7), -4, -4, 0);
    }

    private static void duePacket(String state, PacketClassifier x, int p, int decider, int action, int set) {
        due(state + ": decide(" + p + ")", x.decide(p), decider);
        due(state + ": action(" + p + ")", x.action(p), action);
        due(state + ": holding(" + p + ")", x.holding(p), set);
    }

    /** Promise 8: the empty set is 0, the set of all ten rules 1023. */
    private static void promise8AllTen() {
        PacketClassifier x = new PacketClassifier();
        for (int r = 0; r < 10; r++) {
            x.insert(r, prefix(5, 4), range(2, 2), ports(6, 6, 1));
        }
        due("ten: holding", x.holding(packet(5, 2, 6)), 1023);
        due("ten: holding beside", x.holding(packet(5, 2, 7)), 0);
        due("ten: deepest()", x.deepest(), 10);
        due("ten: idle()", x.idle(), 9);
    }

    private static void promises9To13Counts() {
        PacketClassifier x = nested();
        due("nested: reach(0)", x.reach(0), 1);
        due("nested: reach(1)", x.reach(1), 16);
        due("nested: reach(2)", x.reach(2), 128);
        due("nested: decided(0)", x.decided(0), 1);
        due("nested: decided(1)", x.decided(1), 15);
        due("nested: decided(2)", x.decided(2), 112);
        due("nested: undecided()", x.undecided(), 896);
        due("nested: acted(0)", x.acted(0), 15);
        due("nested: acted(1)", x.acted(1), 0);
        due("nested: acted(2)", x.acted(2), 112);
        due("nested: acted(3)", x.acted(3), 1);
        due("nested: idle()", x.idle(), 0);
        due("nested: swap(0, 2)", x.swap(0, 2), 0);
        due("nested, turned: reach(2)", x.reach(2), 1);
        due("nested, turned: decided(0)", x.decided(0), 128);
        due("nested, turned: decided(1)", x.decided(1), 0);
        due("nested, turned: decided(2)", x.decided(2), 0);
        due("nested, turned: idle()", x.idle(), 2);
        due("nested, turned: undecided()", x.undecided(), 896);
    }

    /** The greatest counts: one rule for every packet, and nine more of the same behind it. */
    private static void promises9To16WholeOfThePackets() {
        PacketClassifier x = new PacketClassifier();
        x.insert(0, ALL_SOURCES, ALL_GOALS, ports(0, 7, 3));
        due("whole: reach(0)", x.reach(0), 1024);
        due("whole: decided(0)", x.decided(0), 1024);
        due("whole: undecided()", x.undecided(), 0);
        due("whole: acted(3)", x.acted(3), 1024);
        due("whole: idle()", x.idle(), 0);
        due("whole: weight(0)", x.weight(0), 1024);
        due("whole: deepest()", x.deepest(), 1);
        for (int r = 1; r < 10; r++) {
            x.insert(r, ALL_SOURCES, ALL_GOALS, ports(0, 7, 3));
        }
        due("whole ten times: reach(9)", x.reach(9), 1024);
        due("whole ten times: decided(0)", x.decided(0), 1024);
        due("whole ten times: decided(9)", x.decided(9), 0);
        due("whole ten times: undecided()", x.undecided(), 0);
        due("whole ten times: acted(3)", x.acted(3), 1024);
        due("whole ten times: idle()", x.idle(), 9);
        due("whole ten times: weight(0)", x.weight(0), 0);
        due("whole ten times: deepest()", x.deepest(), 10);
    }

    private static void promise12ActionOfSeveralRules() {
        PacketClassifier x = new PacketClassifier();
        x.insert(0, prefix(0, 1), range(0, 0), ports(0, 7, 1));
        x.insert(1, prefix(8, 1), range(1, 1), ports(0, 7, 1));
        x.insert(2, ALL_SOURCES, range(0, 1), ports(0, 7, 0));
        due("two rules of one action: acted(1)", x.acted(1), 128);
        due("the rest: acted(0)", x.acted(0), 128);
        due("no rule of it: acted(2)", x.acted(2), 0);
    }

    /** Two rules that cover a third one together, neither of them alone. */
    private static void promise13IdleByTwo() {
        PacketClassifier x = new PacketClassifier();
        x.insert(0, prefix(0, 1), ALL_GOALS, ports(0, 7, 0));
        x.insert(1, prefix(8, 1), ALL_GOALS, ports(0, 7, 1));
        x.insert(2, ALL_SOURCES, range(3, 3), ports(3, 3, 2));
        due("covered by two: idle()", x.idle(), 1);
        due("covered by two: decided(2)", x.decided(2), 0);
        due("covered by two: weight(2)", x.weight(2), 0);
        due("covered by two: remove(0)", x.remove(0), 2);
        due("uncovered in part: idle()", x.idle(), 0);
        due("uncovered in part: decided(1)", x.decided(1), 8);
    }

    private static void promise14Weight() {
        PacketClassifier x = nested();
        due("nested: weight(0), another action", x.weight(0), 1);
        due("nested: weight(1), another action", x.weight(1), 15);
        due("nested: weight(2), undecided", x.weight(2), 112);
        due("weight changes nothing: rules()", x.rules(), 3);
        due("only packet 0: weight(0)", single(1).weight(0), 1);
        PacketClassifier y = new PacketClassifier();
        y.insert(0, prefix(0, 1), ALL_GOALS, ports(0, 7, 0));
        y.insert(1, prefix(0, 2), ALL_GOALS, ports(0, 3, 0));
        y.insert(2, prefix(0, 2), ALL_GOALS, ports(0, 7, 1));
        due("heirs of like and other action, and none: weight(0)", y.weight(0), 512 - 128);
        due("decides nothing: weight(1)", y.weight(1), 0);
        due("decides nothing: weight(2)", y.weight(2), 0);
        y.swap(0, 1);
        due("heir of the same action: weight(0)", y.weight(0), 0);
        due("behind it: weight(1)", y.weight(1), 512 - 128);
    }

    /** The heir is the next rule that holds, not any later one. */
    private static void promise14TheNextRuleInherits() {
        PacketClassifier x = new PacketClassifier();
        x.insert(0, prefix(3, 4), range(3, 3), ports(0, 7, 2));
        x.insert(1, ALL_SOURCES, range(3, 3), ports(0, 3, 1));
        x.insert(2, ALL_SOURCES, range(3, 3), ports(0, 7, 2));
        due("weight(0)", x.weight(0), 4);
        x.swap(1, 2);
        due("weight(0), heirs turned", x.weight(0), 0);
    }

    private static void promise15Next() {
        PacketClassifier x = nested();
        due("nested: next(1, 0)", x.next(1, 0), packet(12, 6, 6));
        due("nested: next(1, behind it)", x.next(1, packet(12, 6, 6) + 1), packet(12, 6, 7));
        due("nested: next(1, across goals)", x.next(1, packet(12, 6, 7) + 1), packet(12, 7, 6));
        due("nested: next(1, across sources)", x.next(1, packet(12, 7, 7) + 1), packet(13, 6, 6));
    }

    private static void promise16Deepest() {
        PacketClassifier x = nested();
        due("nested: deepest()", x.deepest(), 3);
        due("nested: remove(1)", x.remove(1), 2);
        due("nested: deepest(), one less", x.deepest(), 2);
        due("apart: deepest()", single(10).deepest(), 1);
        PacketClassifier y = new PacketClassifier();
        y.insert(0, prefix(0, 4), range(0, 0), ports(0, 0, 0));
        y.insert(1, prefix(0, 4), range(0, 0), ports(0, 0, 0));
        due("deepest at packet 0", y.deepest(), 2);
    }

    public static void main(String[] args) {
        constants();
        promise1NewObject();
        promise2InsertMovesTheRest();
        promise2EveryPrefix();
        promise2EveryRangeAndAction();
        promise3Remove();
        promise4Swap();
        promise4SwapCarriesAllParts();
        promise5Rules();
        promises6To8OnePacket();
        promise8AllTen();
        promises9To13Counts();
        promises9To16WholeOfThePackets();
        promise12ActionOfSeveralRules();
        promise13IdleByTwo();
        promise14Weight();
        promise14TheNextRuleInherits();
        promise15Next();
        promise16Deepest();
        finish();
    }
}
