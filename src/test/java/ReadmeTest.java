import java.lang.reflect.Method;
import java.lang.reflect.Modifier;
import java.nio.file.Files;
import java.nio.file.Path;
import java.util.Map;
import java.util.Set;
import java.util.TreeMap;
import java.util.TreeSet;
import java.util.regex.Matcher;
import java.util.regex.Pattern;

/** What README.md says that a call answers is what it answers, and its example makes every call of the class. */
public final class ReadmeTest extends Checks {
    private static final String NEW_OBJECT = "PacketClassifier c = new PacketClassifier();";
    private static final Pattern CALL = Pattern.compile("c\\.(\\w+)\\(([^()]*)\\); +// (-?\\w+)(: .+)?");
    private static final Map<String, Integer> CODES = Map.of("BAD_ARG", -1, "FULL", -2, "NONE", -4);

    private static Map<String, Method> methods() {
        Map<String, Method> methods = new TreeMap<>();
        for (Method m : PacketClassifier.class.getDeclaredMethods()) {
            if (Modifier.isPublic(m.getModifiers())) {
                methods.put(m.getName(), m);
            }
        }
        return methods;
    }

    private static String example() throws Exception {
        String page = Files.readString(Path.of("README.md"));
        String start = "```java\n";
        int from = page.indexOf(start) + start.length();
        return page.substring(from, page.indexOf("```", from));
    }

    /** A sum of products, as the example packs its numbers. */
    private static int value(String sum) {
        int total = 0;
        for (String product : sum.split("\\+")) {
            int part = 1;
            for (String factor : product.split("\\*")) {
                part *= Integer.parseInt(factor.trim());
            }
            total += part;
        }
        return total;
    }

    private static Object[] values(String arguments) {
        if (arguments.isEmpty()) {
            return new Object[0];
        }
        String[] sums = arguments.split(",");
        Object[] values = new Object[sums.length];
        for (int i = 0; i < sums.length; i++) {
            values[i] = value(sums[i]);
        }
        return values;
    }

    private static int said(String answer) {
        return CODES.containsKey(answer) ? CODES.get(answer) : Integer.parseInt(answer);
    }

    public static void main(String[] args) throws Exception {
        Map<String, Method> methods = methods();
        Set<String> notCalled = new TreeSet<>(methods.keySet());
        PacketClassifier c = new PacketClassifier();
        for (String line : example().split("\n")) {
            Matcher call = CALL.matcher(line);
            if (call.matches()) {
                Method method = methods.get(call.group(1));
                due(line, (int) method.invoke(c, values(call.group(2))), said(call.group(3)));
                notCalled.remove(method.getName());
            } else if (!line.equals(NEW_OBJECT)) {
                fault("not a call with its answer: " + line);
            }
        }
        for (String name : notCalled) {
            fault("README.md's example doesn't call " + name);
        }
        finish();
    }
}
