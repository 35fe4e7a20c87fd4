import java.lang.reflect.Constructor;
import java.lang.reflect.Field;
import java.lang.reflect.Method;
import java.lang.reflect.Modifier;
import java.util.Set;
import java.util.TreeSet;

/** The class has the constants, constructor and methods of the document, and shows nothing else. */
public final class FaceTest {
    private static final Set<String> DUE = Set.of(
            "public static final int BAD_ARG",
            "public static final int FULL",
            "public static final int NONE",
            "public PacketClassifier()",
            "public int insert(int,int,int,int)",
            "public int remove(int)",
            "public int swap(int,int)",
            "public int rules()",
            "public int decide(int)",
            "public int action(int)",
            "public int holding(int)",
            "public int reach(int)",
            "public int decided(int)",
            "public int undecided()",
            "public int acted(int)",
            "public int idle()",
            "public int weight(int)",
            "public int next(int,int)",
            "public int deepest()");

    private static Set<String> shown() {
        Set<String> shown = new TreeSet<>();
        String owner = "PacketClassifier.";
        for (Field f : PacketClassifier.class.getDeclaredFields()) {
            if (!Modifier.isPrivate(f.getModifiers())) {
                shown.add(f.toString().replace(owner, ""));
            }
        }
        for (Constructor<?> c : PacketClassifier.class.getDeclaredConstructors()) {
            if (!Modifier.isPrivate(c.getModifiers())) {
                shown.add(c.toString());
            }
        }
        for (Method m : PacketClassifier.class.getDeclaredMethods()) {
            if (!Modifier.isPrivate(m.getModifiers())) {
                shown.add(m.toString().replace(owner, ""));
            }
        }
        return shown;
    }

    private static int tell(String what, Set<String> some, Set<String> others) {
        Set<String> left = new TreeSet<>(some);
        left.removeAll(others);
        for (String member : left) {
            System.out.println(what + ": " + member);
        }
        return left.size();
    }

    public static void main(String[] args) {
        Set<String> shown = shown();
        int wrong = tell("missing", DUE, shown) + tell("not in the document", shown, DUE);
        int modifiers = PacketClassifier.class.getModifiers();
        if (modifiers != (Modifier.PUBLIC | Modifier.FINAL)) {
            wrong++;
            System.out.println("the class is " + Modifier.toString(modifiers) + ", due is public final");
        }
        System.out.println(wrong == 0 ? "the face is as due" : wrong + " things of the face are not as due");
        if (wrong != 0) {
            System.exit(1);
        }
    }
}
