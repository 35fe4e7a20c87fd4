import java.util.ArrayList;
import java.util.List;

/**
 * Long mixed runs of calls, each answer compared with a second reading of the document that works
 * another way: it spells every rule out as the set of its packets, and weighs a rule by taking it out.
 */
public final class ModelTest extends Checks {
    private static final int RUNS = 400;
    // The document frees what calls after the 512th answer.
    private static final int CALLS = 512;
    private static final int[] STRANGE = {
        Integer.MIN_VALUE, Integer.MIN_VALUE + 1, -1024, -65, -64, -17, -9, -5, -4, -3, -2, -1, 10, 11, 63, 64, 79,
        80, 255, 256, 1023, 1024, 1025, 65536, Integer.MAX_VALUE - 1, Integer.MAX_VALUE
    };

    private static long seed;

    /** One rule, spelled out. */
    private static final class Rule {
        final boolean[] packets = new boolean[1024];
        final int action;

        Rule(int prefix, int goals, int portsAndAction) {
            String head = digits(prefix % 16).substring(0, prefix / 16);
            for (int source = 0; source < 16; source++) {
                for (int goal = goals % 8; goal <= goals / 8; goal++) {
                    for (int port = portsAndAction % 8; port <= portsAndAction / 8 % 8; port++) {
                        packets[64 * source + 8 * goal + port] = digits(source).startsWith(head);
                    }
                }
            }
            action = portsAndAction / 64;
        }
    }

    private static int decider(List<Rule> rules, int p) {
        for (Rule rule : rules) {
            if (rule.packets[p]) {
                return rules.indexOf(rule);
            }
        }
        return -4;
    }

    private static int actionOf(List<Rule> rules, int p) {
        int decider = decider(rules, p);
        return decider < 0 ? -4 : rules.get(decider).action;
    }

    private static boolean between(int x, int lo, int hi) {
        return lo <= x && x <= hi;
    }

    private static int insert(List<Rule> rules, int at, int prefix, int goals, int portsAndAction) {
        if (!between(at, 0, rules.size()) || !between(prefix, 0, 79)
                || !between(goals, 0, 63) || goals % 8 > goals / 8
                || !between(portsAndAction, 0, 255) || portsAndAction % 8 > portsAndAction / 8 % 8) {
            return -1;
        }
        if (rules.size() == 10) {
            return -2;
        }
        rules.add(at, new Rule(prefix, goals, portsAndAction));
        return rules.size();
    }

    private static int remove(List<Rule> rules, int r) {
        rules.remove(r);
        return rules.size();
    }

    private static int swap(List<Rule> rules, int r, int s) {
        if (!between(s, 0, rules.size() - 1)) {
            return -4;
        }
        rules.set(r, rules.set(s, rules.get(r)));
        return 0;
    }

    private static int holding(List<Rule> rules, int p) {
        int sum = 0;
        int power = 1;
        for (Rule rule : rules) {
            sum += rule.packets[p] ? power : 0;
            power *= 2;
        }
        return sum;
    }

    private static int weight(List<Rule> rules, int r) {
        List<Rule> without = new ArrayList<>(rules);
        without.remove(r);
        int changed = 0;
        for (int p = 0; p < 1024; p++) {
            changed += actionOf(rules, p) != actionOf(without, p) ? 1 : 0;
        }
        return changed;
    }

    private static int next(List<Rule> rules, int r, int from) {
        for (int p = 0; p < 1024; p++) {
            if (p >= from && decider(rules, p) == r) {
                return p;
            }
        }
        return -4;
    }

    private static int reach(List<Rule> rules, int r) {
        int sum = 0;
        for (boolean held : rules.get(r).packets) {
            sum += held ? 1 : 0;
        }
        return sum;
    }

    private static int countDeciders(List<Rule> rules, int decider) {
        int sum = 0;
        for (int p = 0; p < 1024; p++) {
            sum += decider(rules, p) == decider ? 1 : 0;
        }
        return sum;
    }

    private static int acted(List<Rule> rules, int action) {
        int sum = 0;
        for (int p = 0; p < 1024; p++) {
            sum += actionOf(rules, p) == action ? 1 : 0;
        }
        return sum;
    }

    private static int idle(List<Rule> rules) {
        int sum = 0;
        for (int r = 0; r < rules.size(); r++) {
            sum += next(rules, r, 0) < 0 ? 1 : 0;
        }
        return sum;
    }

    private static int deepest(List<Rule> rules) {
        int most = 0;
        for (int p = 0; p < 1024; p++) {
            most = Math.max(most, Integer.bitCount(holding(rules, p)));
        }
        return most;
    }

    /** A fixed sequence of numbers, so that every run of the test makes the same calls. */
    private static int draw(int bound) {
        seed = seed * 6364136223846793005L + 1442695040888963407L;
        return (int) ((seed >>> 33) % bound);
    }

    private static int mostly(int usual) {
        return draw(16) == 0 ? STRANGE[draw(STRANGE.length)] : usual;
    }

    private static int range() {
        int one = draw(8);
        int other = draw(8);
        boolean turned = draw(20) == 0;
        int lo = turned ? Math.max(one, other) : Math.min(one, other);
        return lo + 8 * (one + other - lo);
    }

    private static void due(int run, String call, int got, int want) {
        due("run " + run + ": " + call, got, want);
    }

    private static void change(int run, PacketClassifier x, List<Rule> rules) {
        int size = rules.size();
        int kind = draw(10);
        if (kind < 6) {
            int at = mostly(draw(size + 1));
            int prefix = mostly(draw(80));
            int goals = mostly(range());
            int ports = mostly(range() + 64 * draw(4));
            due(run, "insert(" + at + ", " + prefix + ", " + goals + ", " + ports + ")",
                    x.insert(at, prefix, goals, ports), insert(rules, at, prefix, goals, ports));
            return;
        }
        int r = mostly(draw(size + 1));
        boolean isRule = between(r, 0, size - 1);
        if (kind < 8) {
            due(run, "remove(" + r + ")", x.remove(r), isRule ? remove(rules, r) : -4);
        } else {
            int s = mostly(draw(size + 1));
            due(run, "swap(" + r + ", " + s + ")", x.swap(r, s), isRule ? swap(rules, r, s) : -4);
        }
    }

    private static void askOfPacket(int run, PacketClassifier x, List<Rule> rules) {
        int p = mostly(draw(1024));
        boolean isPacket = between(p, 0, 1023);
        switch (draw(3)) {
            case 0 -> due(run, "decide(" + p + ")", x.decide(p), isPacket ? decider(rules, p) : -1);
            case 1 -> due(run, "action(" + p + ")", x.action(p), isPacket ? actionOf(rules, p) : -1);
            default -> due(run, "holding(" + p + ")", x.holding(p), isPacket ? holding(rules, p) : -1);
        }
    }

    private static void askOfRule(int run, PacketClassifier x, List<Rule> rules) {
        int r = mostly(draw(rules.size() + 1));
        boolean isRule = between(r, 0, rules.size() - 1);
        switch (draw(4)) {
            case 0 -> due(run, "reach(" + r + ")", x.reach(r), isRule ? reach(rules, r) : -4);
            case 1 -> due(run, "decided(" + r + ")", x.decided(r), isRule ? countDeciders(rules, r) : -4);
            case 2 -> due(run, "weight(" + r + ")", x.weight(r), isRule ? weight(rules, r) : -4);
            default -> {
                int from = mostly(draw(1024));
                due(run, "next(" + r + ", " + from + ")", x.next(r, from), isRule ? next(rules, r, from) : -4);
            }
        }
    }

    private static void askOfAll(int run, PacketClassifier x, List<Rule> rules) {
        switch (draw(5)) {
            case 0 -> due(run, "rules()", x.rules(), rules.size());
            case 1 -> due(run, "undecided()", x.undecided(), countDeciders(rules, -4));
            case 2 -> due(run, "idle()", x.idle(), idle(rules));
            case 3 -> due(run, "deepest()", x.deepest(), deepest(rules));
            default -> {
                int action = mostly(draw(4));
                due(run, "acted(" + action + ")", x.acted(action), between(action, 0, 3) ? acted(rules, action) : -1);
            }
        }
    }

    private static void oneRun(int run) {
        PacketClassifier x = new PacketClassifier();
        List<Rule> rules = new ArrayList<>();
        for (int call = 0; call < CALLS; call++) {
            switch (draw(5)) {
                case 0 -> change(run, x, rules);
                case 1 -> askOfPacket(run, x, rules);
                case 2, 3 -> askOfRule(run, x, rules);
                default -> askOfAll(run, x, rules);
            }
        }
    }

    public static void main(String[] args) {
        for (int run = 0; run < RUNS && wrongSoFar() < 20; run++) {
            seed = run;
            oneRun(run);
        }
        finish();
    }
}
