import java.util.function.ToIntFunction;

/**
 * One test for each sentence of the document that names a boundary case: the last input inside, the first one
 * outside, and for a refused call that it changes nothing. PromisesTest has those of the new object, of the
 * prefixes and ranges that a rule may have, and of the least and greatest counts.
 */
public final class BoundariesTest extends Checks {
    private static final int BAD_ARG = -1;
    private static final int FULL = -2;
    private static final int NONE = -4;
    private static final int CALLS = 512;
    private static final int WHOLE = ports(0, 7, 1);

    private static final State EMPTY = new State("no rule", 0, () -> empty());
    private static final State NESTED = new State("3 rules", 3, () -> nested());
    private static final State NINE = new State("9 rules", 9, () -> single(9));
    private static final State TEN = new State("10 rules", 10, () -> single(10));
    private static final State[] WITH_ROOM = {EMPTY, NESTED, NINE};
    private static final State[] STATES = {EMPTY, NESTED, TEN};

    private static final int[] NO_PACKET = {MIN, -1, 1024, MAX};

    private interface OfOneNumber {
        int ask(PacketClassifier x, int number);
    }

    private static int[] noRuleIn(State state) {
        return new int[] {MIN, -1, state.rules, MAX};
    }

    private static PacketClassifier onlyPackets0And1023() {
        PacketClassifier x = new PacketClassifier();
        x.insert(0, prefix(15, 4), range(7, 7), ports(7, 7, 3));
        x.insert(1, prefix(0, 4), range(0, 0), ports(0, 0, 2));
        return x;
    }

    /** What it is: "used for at most 512 calls", so the 512th is still answered as promised. */
    private static void whatItIsThe512thCall() {
        dueAsTheLast("insert", x -> x.insert(3, ALL_SOURCES, ALL_GOALS, WHOLE), 4);
        dueAsTheLast("remove(0)", x -> x.remove(0), 2);
        dueAsTheLast("swap(0, 2)", x -> x.swap(0, 2), 0);
        dueAsTheLast("rules()", x -> x.rules(), 3);
        dueAsTheLast("decide(1023)", x -> x.decide(1023), 0);
        dueAsTheLast("action(1023)", x -> x.action(1023), 3);
        dueAsTheLast("holding(1023)", x -> x.holding(1023), 7);
        dueAsTheLast("reach(2)", x -> x.reach(2), 128);
        dueAsTheLast("decided(2)", x -> x.decided(2), 112);
        dueAsTheLast("undecided()", x -> x.undecided(), 896);
        dueAsTheLast("acted(2)", x -> x.acted(2), 112);
        dueAsTheLast("idle()", x -> x.idle(), 0);
        dueAsTheLast("weight(1)", x -> x.weight(1), 15);
        dueAsTheLast("next(1, 0)", x -> x.next(1, 0), packet(12, 6, 6));
        dueAsTheLast("deepest()", x -> x.deepest(), 3);
    }

    private static void dueAsTheLast(String call, ToIntFunction<PacketClassifier> made, int want) {
        PacketClassifier changed = new PacketClassifier();
        PacketClassifier refusing = new PacketClassifier();
        // Three calls put the nested rules in, and the last one is the one to be looked at.
        for (int before = 0; before < CALLS - 4; before += 2) {
            changed.insert(0, ALL_SOURCES, ALL_GOALS, WHOLE);
            changed.remove(0);
            refusing.insert(1, ALL_SOURCES, ALL_GOALS, WHOLE);
            refusing.remove(0);
        }
        insertNested(changed);
        insertNested(refusing);
        due(call + " as call 512, after changes", made.applyAsInt(changed), want);
        due(call + " as call 512, after refused calls", made.applyAsInt(refusing), want);
    }

    /** Terms: source 0 to 15, goal 0 to 7, port 0 to 7, "its number is 64 source + 8 goal + port (0 to 1023)". */
    private static void termsNumberOfEachPacket() {
        for (int p = 0; p < 1024; p++) {
            int source = p / 64;
            int goal = p / 8 % 8;
            int port = p % 8;
            PacketClassifier x = new PacketClassifier();
            x.insert(0, prefix(source, 4), range(goal, goal), ports(port, port, 0));
            String rule = "rule for source " + source + ", goal " + goal + ", port " + port + " alone: ";
            due(rule + "next(0, 0)", x.next(0, 0), p);
            due(rule + "reach(0)", x.reach(0), 1);
            due(rule + "decide(" + p + ")", x.decide(p), 0);
            due(rule + "decide(" + (p - 1) + ")", x.decide(p - 1), p == 0 ? BAD_ARG : NONE);
            due(rule + "decide(" + (p + 1) + ")", x.decide(p + 1), p == 1023 ? BAD_ARG : NONE);
        }
    }

    /** Terms: "No call ever throws." */
    private static void termsNoCallEverThrows() {
        int[] numbers = {MIN, MIN + 1, -1025, -64, -4, -1, 0, 1, 9, 10, 11, 56, 79, 80, 255, 256, 1023, 1024, MAX};
        for (State state : STATES) {
            for (int a : numbers) {
                dueNoThrow(state, "a call with " + a, x -> everyCallOfOneNumber(x, a));
                for (int b : numbers) {
                    dueNoThrow(state, "swap(" + a + ", " + b + ")", x -> x.swap(a, b));
                    dueNoThrow(state, "next(" + a + ", " + b + ")", x -> x.next(a, b));
                    for (int c : numbers) {
                        String call = "insert(" + a + ", " + b + ", " + c + ", ..)";
                        dueNoThrow(state, call, x -> insertEach(x, a, b, c, numbers));
                    }
                }
            }
        }
    }

    private static int everyCallOfOneNumber(PacketClassifier x, int number) {
        return x.decide(number) + x.action(number) + x.holding(number) + x.reach(number) + x.decided(number)
                + x.acted(number) + x.weight(number) + x.remove(number);
    }

    private static int insertEach(PacketClassifier x, int at, int prefix, int goals, int[] portsAndActions) {
        int sum = 0;
        for (int portsAndAction : portsAndActions) {
            sum += x.insert(at, prefix, goals, portsAndAction);
        }
        return sum;
    }

    private static void dueNoThrow(State state, String call, ToIntFunction<PacketClassifier> made) {
        try {
            PacketClassifier x = state.make();
            made.applyAsInt(x);
            // A call may also leave behind what only a later one trips over.
            x.idle();
        } catch (Throwable thrown) {
            fault(state.name + ": " + call + " threw " + thrown);
        }
    }

    /** Promise 2: "at not 0 to the number of rules .. answers BAD_ARG". */
    private static void promise2At() {
        for (State state : WITH_ROOM) {
            int rules = state.rules;
            dueInserted(state, 0, ALL_SOURCES, ALL_GOALS, WHOLE, 1024);
            dueInserted(state, rules, ALL_SOURCES, ALL_GOALS, WHOLE, 1024);
            for (int at : new int[] {MIN, -1, rules + 1, MAX}) {
                dueNotInserted(state, at, ALL_SOURCES, ALL_GOALS, WHOLE, BAD_ARG);
            }
        }
    }

    /** Promise 2: "prefix not 0 to 79 .. answers BAD_ARG". */
    private static void promise2Prefix() {
        dueInserted(NESTED, 0, 0, ALL_GOALS, WHOLE, 1024);
        dueInserted(NESTED, 0, 79, ALL_GOALS, WHOLE, 64);
        for (int prefix : new int[] {MIN, -16, -1, 80, MAX}) {
            dueNotInserted(NESTED, 0, prefix, ALL_GOALS, WHOLE, BAD_ARG);
        }
    }

    /** Promise 2: "goals not 0 to 63 .. answers BAD_ARG", also where the lowest six digits would be a range. */
    private static void promise2Goals() {
        dueInserted(NESTED, 0, ALL_SOURCES, 0, WHOLE, 128);
        dueInserted(NESTED, 0, ALL_SOURCES, 63, WHOLE, 128);
        for (int goals : new int[] {MIN, -8, -1, 64, 64 + ALL_GOALS, MAX}) {
            dueNotInserted(NESTED, 0, ALL_SOURCES, goals, WHOLE, BAD_ARG);
        }
    }

    /** Promise 2: goals with "its lo greater than its hi answers BAD_ARG". */
    private static void promise2GoalsLoGreaterThanHi() {
        for (int hi = 0; hi < 8; hi++) {
            dueInserted(NESTED, 0, ALL_SOURCES, range(hi, hi), WHOLE, 128);
            for (int lo = hi + 1; lo < 8; lo++) {
                dueNotInserted(NESTED, 0, ALL_SOURCES, range(lo, hi), WHOLE, BAD_ARG);
            }
        }
    }

    /** Promise 2: "portsAndAction not 0 to 255 .. answers BAD_ARG", and so an action that is not 0 to 3. */
    private static void promise2PortsAndAction() {
        dueInserted(NESTED, 0, ALL_SOURCES, ALL_GOALS, 0, 128);
        dueInserted(NESTED, 0, ALL_SOURCES, ALL_GOALS, 255, 128);
        dueInserted(NESTED, 0, ALL_SOURCES, ALL_GOALS, ports(0, 7, 3), 1024);
        for (int portsAndAction : new int[] {MIN, -8, -1, 256, ports(0, 7, 4), MAX}) {
            dueNotInserted(NESTED, 0, ALL_SOURCES, ALL_GOALS, portsAndAction, BAD_ARG);
        }
    }

    /** Promise 2: ports with "its lo greater than its hi answers BAD_ARG". */
    private static void promise2PortsLoGreaterThanHi() {
        for (int action = 0; action < 4; action++) {
            for (int hi = 0; hi < 8; hi++) {
                dueInserted(NESTED, 0, ALL_SOURCES, ALL_GOALS, ports(hi, hi, action), 128);
                for (int lo = hi + 1; lo < 8; lo++) {
                    dueNotInserted(NESTED, 0, ALL_SOURCES, ALL_GOALS, ports(lo, hi, action), BAD_ARG);
                }
            }
        }
    }

    /** Promise 2: "FULL", which the constant says is for 10 rules; Terms: rules are "at most 10". */
    private static void promise2Full() {
        dueInserted(NINE, 0, ALL_SOURCES, ALL_GOALS, WHOLE, 1024);
        dueInserted(NINE, 9, ALL_SOURCES, ALL_GOALS, WHOLE, 1024);
        for (int at = 0; at <= 10; at++) {
            dueNotInserted(TEN, at, ALL_SOURCES, ALL_GOALS, WHOLE, FULL);
        }
        PacketClassifier x = TEN.make();
        x.insert(0, ALL_SOURCES, ALL_GOALS, WHOLE);
        due("10 rules, after FULL: remove(9)", x.remove(9), 9);
        due("room again: insert", x.insert(9, ALL_SOURCES, ALL_GOALS, WHOLE), 10);
        due("full again: insert", x.insert(9, ALL_SOURCES, ALL_GOALS, WHOLE), FULL);
    }

    /** Promise 2: "Tested in this order: .. BAD_ARG; FULL", so a full object answers BAD_ARG to a wrong argument. */
    private static void promise2BadArgBeforeFull() {
        dueNotInserted(TEN, -1, ALL_SOURCES, ALL_GOALS, WHOLE, BAD_ARG);
        dueNotInserted(TEN, 11, ALL_SOURCES, ALL_GOALS, WHOLE, BAD_ARG);
        dueNotInserted(TEN, 0, -1, ALL_GOALS, WHOLE, BAD_ARG);
        dueNotInserted(TEN, 0, 80, ALL_GOALS, WHOLE, BAD_ARG);
        dueNotInserted(TEN, 0, ALL_SOURCES, -1, WHOLE, BAD_ARG);
        dueNotInserted(TEN, 0, ALL_SOURCES, 64, WHOLE, BAD_ARG);
        dueNotInserted(TEN, 0, ALL_SOURCES, range(1, 0), WHOLE, BAD_ARG);
        dueNotInserted(TEN, 0, ALL_SOURCES, ALL_GOALS, -1, BAD_ARG);
        dueNotInserted(TEN, 0, ALL_SOURCES, ALL_GOALS, 256, BAD_ARG);
        dueNotInserted(TEN, 0, ALL_SOURCES, ALL_GOALS, ports(1, 0, 3), BAD_ARG);
    }

    private static String insertCall(int at, int prefix, int goals, int portsAndAction) {
        return "insert(" + at + ", " + prefix + ", " + goals + ", " + portsAndAction + ")";
    }

    private static void dueInserted(State state, int at, int prefix, int goals, int portsAndAction, int reach) {
        String call = state.name + ": " + insertCall(at, prefix, goals, portsAndAction);
        PacketClassifier x = state.make();
        due(call, x.insert(at, prefix, goals, portsAndAction), state.rules + 1);
        due(call + ", then rules()", x.rules(), state.rules + 1);
        due(call + ", then reach(" + at + ")", x.reach(at), reach);
    }

    private static void dueNotInserted(State state, int at, int prefix, int goals, int portsAndAction, int code) {
        String call = insertCall(at, prefix, goals, portsAndAction);
        state.dueRefused(call, x -> x.insert(at, prefix, goals, portsAndAction), code);
    }

    /** Promise 3: "NONE if there is none." */
    private static void promise3NoSuchRule() {
        dueNoneWithoutRule("remove", (x, r) -> x.remove(r));
        due("3 rules: remove(0)", nested().remove(0), 2);
        due("3 rules: remove(2)", nested().remove(2), 2);
        PacketClassifier x = single(10);
        for (int last = 9; last >= 0; last--) {
            due("the last of all: remove(" + last + ")", x.remove(last), last);
            due("gone: remove(" + last + ")", x.remove(last), NONE);
        }
    }

    /** Promise 4: "NONE if there is no such rule", be it r, s or both. */
    private static void promise4NoSuchRule() {
        due("3 rules: swap(0, 2)", nested().swap(0, 2), 0);
        due("3 rules: swap(2, 0)", nested().swap(2, 0), 0);
        due("3 rules: swap(2, 2)", nested().swap(2, 2), 0);
        for (State state : STATES) {
            for (int r : noRuleIn(state)) {
                state.dueRefused("swap(" + r + ", 0)", x -> x.swap(r, 0), NONE);
                state.dueRefused("swap(0, " + r + ")", x -> x.swap(0, r), NONE);
                state.dueRefused("swap(" + r + ", " + r + ")", x -> x.swap(r, r), NONE);
            }
        }
    }

    /** Promise 6: "BAD_ARG if p is not 0 to 1023." */
    private static void promise6NoSuchPacket() {
        due("decide(0)", onlyPackets0And1023().decide(0), 1);
        due("decide(1023)", onlyPackets0And1023().decide(1023), 0);
        dueBadArgWithoutPacket("decide", (x, p) -> x.decide(p));
    }

    /** Promise 7: "BAD_ARG if p is not 0 to 1023." */
    private static void promise7NoSuchPacket() {
        due("action(0)", onlyPackets0And1023().action(0), 2);
        due("action(1023)", onlyPackets0And1023().action(1023), 3);
        dueBadArgWithoutPacket("action", (x, p) -> x.action(p));
    }

    /** Promise 8: "BAD_ARG if p is not 0 to 1023." */
    private static void promise8NoSuchPacket() {
        due("holding(0)", onlyPackets0And1023().holding(0), 2);
        due("holding(1023)", onlyPackets0And1023().holding(1023), 1);
        dueBadArgWithoutPacket("holding", (x, p) -> x.holding(p));
    }

    private static void dueBadArgWithoutPacket(String name, OfOneNumber call) {
        for (State state : STATES) {
            for (int p : NO_PACKET) {
                state.dueRefused(name + "(" + p + ")", x -> call.ask(x, p), BAD_ARG);
            }
        }
    }

    /** Promise 6: "NONE if it is undecided"; Terms: a packet is if no rule holds for its source, goal and port. */
    private static void promise6Undecided() {
        due("3 rules: decide of the first packet of rule 2", nested().decide(packet(8, 4, 4)), 2);
        dueNoneUndecided("decide", (x, p) -> x.decide(p));
    }

    /** Promise 7: "NONE if it is undecided". */
    private static void promise7Undecided() {
        due("3 rules: action of the first packet of rule 2", nested().action(packet(8, 4, 4)), 2);
        dueNoneUndecided("action", (x, p) -> x.action(p));
    }

    private static void dueNoneUndecided(String name, OfOneNumber call) {
        int[] besideRule2 = {packet(7, 4, 4), packet(8, 3, 4), packet(8, 4, 3)};
        for (int p : besideRule2) {
            NESTED.dueRefused(name + "(" + p + ")", x -> call.ask(x, p), NONE);
        }
        EMPTY.dueRefused(name + "(0)", x -> call.ask(x, 0), NONE);
        EMPTY.dueRefused(name + "(1023)", x -> call.ask(x, 1023), NONE);
    }

    /** Promise 9: "NONE if there is none." */
    private static void promise9NoSuchRule() {
        due("3 rules: reach(0)", nested().reach(0), 1);
        due("3 rules: reach(2)", nested().reach(2), 128);
        dueNoneWithoutRule("reach", (x, r) -> x.reach(r));
    }

    /** Promise 10: "NONE if there is none." */
    private static void promise10NoSuchRule() {
        due("3 rules: decided(0)", nested().decided(0), 1);
        due("3 rules: decided(2)", nested().decided(2), 112);
        dueNoneWithoutRule("decided", (x, r) -> x.decided(r));
    }

    /** Promise 12: "BAD_ARG if it is not 0 to 3." */
    private static void promise12NoSuchAction() {
        due("3 rules: acted(0)", nested().acted(0), 15);
        due("3 rules: acted(3)", nested().acted(3), 1);
        due("no rule: acted(0)", empty().acted(0), 0);
        due("no rule: acted(3)", empty().acted(3), 0);
        for (State state : STATES) {
            for (int action : new int[] {MIN, NONE, -1, 4, MAX}) {
                state.dueRefused("acted(" + action + ")", x -> x.acted(action), BAD_ARG);
            }
        }
    }

    /** Promise 14: "NONE if there is none." */
    private static void promise14NoSuchRule() {
        due("3 rules: weight(0)", nested().weight(0), 1);
        due("3 rules: weight(2)", nested().weight(2), 112);
        dueNoneWithoutRule("weight", (x, r) -> x.weight(r));
    }

    /** Promise 15: "NONE if there is .. no rule r", whatever from is. */
    private static void promise15NoSuchRule() {
        due("3 rules: next(0, 0)", nested().next(0, 0), 1023);
        due("3 rules: next(2, 0)", nested().next(2, 0), packet(8, 4, 4));
        for (State state : STATES) {
            for (int r : noRuleIn(state)) {
                for (int from : new int[] {MIN, 0, 1023, MAX}) {
                    state.dueRefused("next(" + r + ", " + from + ")", x -> x.next(r, from), NONE);
                }
            }
        }
    }

    /** Promise 15: "NONE if there is none", no packet from there on that r decides. */
    private static void promise15NoSuchPacket() {
        int lastOfRule1 = packet(15, 7, 6);
        due("3 rules: next(0, 1023)", nested().next(0, 1023), 1023);
        due("3 rules: next(1, its last)", nested().next(1, lastOfRule1), lastOfRule1);
        NESTED.dueRefused("next(1, behind its last)", x -> x.next(1, lastOfRule1 + 1), NONE);
        NESTED.dueRefused("next(0, 1024)", x -> x.next(0, 1024), NONE);
        NESTED.dueRefused("next(0, MAX)", x -> x.next(0, MAX), NONE);
        State covered = new State("a rule behind its like", 2, () -> twins());
        due("the rule before its like: next(0, 0)", twins().next(0, 0), 0);
        covered.dueRefused("next(1, 0)", x -> x.next(1, 0), NONE);
    }

    private static PacketClassifier twins() {
        PacketClassifier x = new PacketClassifier();
        x.insert(0, ALL_SOURCES, ALL_GOALS, WHOLE);
        x.insert(1, ALL_SOURCES, ALL_GOALS, WHOLE);
        return x;
    }

    /** Promise 15: "from or greater": from itself counts, a lesser packet doesn't, and any does if from is below 0. */
    private static void promise15From() {
        int first = packet(8, 4, 4);
        due("3 rules: next(2, its first)", nested().next(2, first), first);
        due("3 rules: next(2, behind its first)", nested().next(2, first + 1), first + 1);
        for (int from : new int[] {MIN, -1024, -1, 0, first - 1}) {
            due("3 rules: next(2, " + from + ")", nested().next(2, from), first);
        }
        due("packet 0 decided: next(1, 0)", onlyPackets0And1023().next(1, 0), 0);
        due("packet 0 decided: next(1, -1)", onlyPackets0And1023().next(1, -1), 0);
        due("packet 0 decided: next(1, 1)", onlyPackets0And1023().next(1, 1), NONE);
    }

    /** Where there is no rule of this number the call answers NONE and changes nothing. */
    private static void dueNoneWithoutRule(String name, OfOneNumber call) {
        for (State state : STATES) {
            for (int r : noRuleIn(state)) {
                state.dueRefused(name + "(" + r + ")", x -> call.ask(x, r), NONE);
            }
        }
    }

    /** Promise 17: "decide and action: BAD_ARG is tested before NONE": here every packet is undecided. */
    private static void promise17BadArgBeforeNone() {
        due("no rule: decide(0)", empty().decide(0), NONE);
        due("no rule: action(0)", empty().action(0), NONE);
        due("no rule: decide(1023)", empty().decide(1023), NONE);
        due("no rule: action(1023)", empty().action(1023), NONE);
        due("no rule: decide(-1)", empty().decide(-1), BAD_ARG);
        due("no rule: action(-1)", empty().action(-1), BAD_ARG);
        due("no rule: decide(1024)", empty().decide(1024), BAD_ARG);
        due("no rule: action(1024)", empty().action(1024), BAD_ARG);
    }

    public static void main(String[] args) {
        whatItIsThe512thCall();
        termsNumberOfEachPacket();
        termsNoCallEverThrows();
        promise2At();
        promise2Prefix();
        promise2Goals();
        promise2GoalsLoGreaterThanHi();
        promise2PortsAndAction();
        promise2PortsLoGreaterThanHi();
        promise2Full();
        promise2BadArgBeforeFull();
        promise3NoSuchRule();
        promise4NoSuchRule();
        promise6NoSuchPacket();
        promise6Undecided();
        promise7NoSuchPacket();
        promise7Undecided();
        promise8NoSuchPacket();
        promise9NoSuchRule();
        promise10NoSuchRule();
        promise12NoSuchAction();
        promise14NoSuchRule();
        promise15NoSuchRule();
        promise15NoSuchPacket();
        promise15From();
        promise17BadArgBeforeNone();
        finish();
    }
}
