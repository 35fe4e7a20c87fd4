import java.util.ArrayList;
import java.util.List;
import java.util.function.Supplier;
import java.util.function.ToIntFunction;

/**
 * A state that can be made again and again, and what an object in it answers. What calls after the 512th
 * answer is free, so one object can't be asked everything: each few hundred questions go to a new one.
 */
final class State extends Checks {
    private static final int QUESTIONS_PER_OBJECT = 480;

    private record Call(String name, ToIntFunction<PacketClassifier> made) { }

    private static final List<Call> QUESTIONS = questions();
    private static final List<Call> LATER_CHANGES = laterChanges();

    final String name;
    final int rules;
    private final Supplier<PacketClassifier> maker;
    private final int[] answers;

    State(String name, int rules, Supplier<PacketClassifier> maker) {
        this.name = name;
        this.rules = rules;
        this.maker = maker;
        answers = answersOf(maker);
    }

    PacketClassifier make() {
        return maker.get();
    }

    /** The call must answer the code, and every answer after it must be the same as before it. */
    void dueRefused(String call, ToIntFunction<PacketClassifier> made, int code) {
        due(name + ": " + call, made.applyAsInt(make()), code);
        int[] after = answersOf(() -> {
            PacketClassifier x = make();
            made.applyAsInt(x);
            return x;
        });
        for (int i = 0; i < after.length; i++) {
            if (after[i] != answers[i]) {
                due(name + ", after " + call + ": " + callAt(i).name(), after[i], answers[i]);
                return;
            }
        }
    }

    private static Call callAt(int i) {
        int questions = QUESTIONS.size();
        return i < questions ? QUESTIONS.get(i) : LATER_CHANGES.get(i - questions);
    }

    private static int[] answersOf(Supplier<PacketClassifier> maker) {
        int questions = QUESTIONS.size();
        int[] answers = new int[questions + LATER_CHANGES.size()];
        PacketClassifier x = null;
        for (int i = 0; i < answers.length; i++) {
            boolean firstChange = i == questions;
            if (firstChange || i < questions && i % QUESTIONS_PER_OBJECT == 0) {
                x = maker.get();
            }
            answers[i] = callAt(i).made().applyAsInt(x);
        }
        return answers;
    }

    private static List<Call> questions() {
        List<Call> calls = new ArrayList<>();
        addCounts(calls);
        for (int i = 0; i < 10; i++) {
            int r = i;
            calls.add(new Call("reach(" + r + ")", x -> x.reach(r)));
            calls.add(new Call("decided(" + r + ")", x -> x.decided(r)));
            calls.add(new Call("weight(" + r + ")", x -> x.weight(r)));
            for (int j = 0; j <= 1024; j++) {
                int from = j;
                calls.add(new Call("next(" + r + ", " + from + ")", x -> x.next(r, from)));
            }
        }
        for (int i = 0; i < 1024; i++) {
            int p = i;
            calls.add(new Call("decide(" + p + ")", x -> x.decide(p)));
            calls.add(new Call("action(" + p + ")", x -> x.action(p)));
            calls.add(new Call("holding(" + p + ")", x -> x.holding(p)));
        }
        return calls;
    }

    private static void addCounts(List<Call> calls) {
        calls.add(new Call("rules()", x -> x.rules()));
        calls.add(new Call("undecided()", x -> x.undecided()));
        calls.add(new Call("idle()", x -> x.idle()));
        calls.add(new Call("deepest()", x -> x.deepest()));
        for (int i = 0; i < 4; i++) {
            int action = i;
            calls.add(new Call("acted(" + action + ")", x -> x.acted(action)));
        }
    }

    /** Changes that fill the object and empty it, since a refused call may have left what no question alone shows. */
    private static List<Call> laterChanges() {
        List<Call> calls = new ArrayList<>();
        calls.add(new Call("then swap(0, 2)", x -> x.swap(0, 2)));
        calls.add(new Call("then remove(1)", x -> x.remove(1)));
        for (int i = 0; i < 11; i++) {
            int value = i;
            calls.add(new Call("then insert " + value,
                    x -> x.insert(0, prefix(value, 4), ALL_GOALS, ports(0, 7, value % 4))));
            addCounts(calls);
        }
        for (int i = 0; i < 11; i++) {
            calls.add(new Call("then remove(0)", x -> x.remove(0)));
            addCounts(calls);
        }
        return calls;
    }
}
