import java.io.PrintWriter;
import java.io.StringWriter;
import java.util.LinkedHashMap;
import java.util.Map;
import java.util.Set;
import java.util.TreeSet;
import java.util.regex.Matcher;
import java.util.regex.Pattern;
import java.util.spi.ToolProvider;

/** What the compiled class calls and makes: no recursion, at most eight calls deep, no library but what is listed, no row made by a call. */
public final class CallsTest {
    private static final Set<String> LIBRARY = Set.of("java/util/Arrays.fill", "java/lang/Math.max", "java/lang/Math.min", "java/lang/Math.abs",
            "java/lang/Integer.bitCount", "java/lang/Long.bitCount", "java/lang/String.length", "java/lang/String.charAt", "java/lang/Object.\"<init>\"");
    private static final int DEEPEST = 8;
    private static final Pattern METHOD = Pattern.compile("  (?:\\S.* )?([\\w$]+)\\(.*\\);");
    private static final Pattern CALL = Pattern.compile("\\d+: invoke\\w+ .*// (?:Interface)?Method (?:([\\w/$]+)\\.)?(\\w+|\"<init>\"):.*");
    private static final Pattern MAKING = Pattern.compile("\\d+: (new|newarray|anewarray|multianewarray|invokedynamic|athrow) .*");
    private static int wrong = 0;

    private final Map<String, Set<String>> calls = new LinkedHashMap<>();
    private final Map<String, Integer> depths = new LinkedHashMap<>();

    private static void complain(String what) {
        wrong++;
        System.out.println("not so: " + what);
    }

    private static String[] listing(String name) {
        StringWriter text = new StringWriter();
        PrintWriter out = new PrintWriter(text);
        ToolProvider.findFirst("javap").orElseThrow().run(out, out, "-c", "-p", "-cp", System.getProperty("java.class.path"), name);
        return text.toString().split("\n");
    }

    private void read(String name) {
        String method = name;
        for (String line : listing(name)) {
            Matcher header = METHOD.matcher(line);
            Matcher call = CALL.matcher(line.trim());
            if (header.matches()) {
                method = name + "." + (header.group(1).equals(name) ? "\"<init>\"" : header.group(1));
                calls.put(method, calls.getOrDefault(method, new TreeSet<>()));
            } else if (call.matches()) {
                addCall(method, (call.group(1) == null ? name : call.group(1)) + "." + call.group(2));
            } else if (MAKING.matcher(line.trim()).matches() && !method.endsWith("\"<init>\"")) {
                complain(method + " makes or throws nothing: " + line.trim());
            }
        }
    }

    private void addCall(String method, String called) {
        if (called.startsWith("HandsOrder")) {
            calls.get(method).add(called);
        } else if (!LIBRARY.contains(called)) {
            complain(called + " may be used in " + method);
        }
    }

    /** How many methods stand open at once, this one among them; one that is met on its own way is a recursion. */
    private int depth(String method, Set<String> open) {
        if (!open.add(method)) {
            complain(method + " does not call itself");
            return 0;
        }
        if (!depths.containsKey(method)) {
            int most = 0;
            for (String called : calls.getOrDefault(method, Set.of())) {
                most = Math.max(most, depth(called, open));
            }
            depths.put(method, 1 + most);
        }
        open.remove(method);
        return depths.get(method);
    }

    public static void main(String[] args) {
        CallsTest test = new CallsTest();
        test.read("HandsOrder");
        for (Class<?> inside : HandsOrder.class.getDeclaredClasses()) {
            test.read(inside.getName());
        }
        int most = 0;
        for (String method : test.calls.keySet()) {
            int depth = test.depth(method, new TreeSet<>());
            most = Math.max(most, depth);
            if (depth > DEEPEST) {
                complain(method + " goes at most eight deep: " + depth);
            }
        }
        if (test.calls.size() < HandsOrder.class.getDeclaredMethods().length) {
            complain("all methods were read: " + test.calls.size());
        }
        System.out.println(wrong == 0 ? test.calls.size() + " methods, at most " + most + " deep" : wrong + " rules are not kept");
        System.exit(wrong == 0 ? 0 : 1);
    }
}
