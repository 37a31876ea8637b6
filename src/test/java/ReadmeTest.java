import java.io.File;
import java.io.IOException;
import java.lang.reflect.Method;
import java.lang.reflect.Modifier;
import java.net.URL;
import java.net.URLClassLoader;
import java.nio.file.Files;
import java.nio.file.Path;
import java.util.ArrayList;
import java.util.List;
import java.util.regex.Matcher;
import java.util.regex.Pattern;
import javax.tools.JavaCompiler;
import javax.tools.ToolProvider;

/** README.md holds: its Java is compiled and run, and each answer that it shows is the one that comes. */
public final class ReadmeTest {
    /** A call, and the answer with which the words behind it begin. */
    private static final Pattern SHOWN = Pattern.compile("(x\\.(\\w+)\\(.*\\)); +// (-?\\d+|true|false|NONE)\\b.*");
    private static int wrong = 0;

    private final StringBuilder helpers = new StringBuilder();
    private final StringBuilder steps = new StringBuilder();
    private final List<String> calls = new ArrayList<>();

    private static void complain(String what) {
        wrong++;
        System.out.println("README.md: " + what);
    }

    /** A block that begins with static has functions; the others are one run of calls. */
    private void read(List<String> lines) {
        boolean java = false;
        StringBuilder into = steps;
        for (int k = 0; k < lines.size(); k++) {
            String line = lines.get(k);
            if (line.startsWith("```")) {
                java = !java && line.equals("```java");
                into = java && lines.get(k + 1).startsWith("static ") ? helpers : steps;
            } else if (java) {
                into.append(line.startsWith("x.") ? asked(line, k + 1) : line).append('\n');
            }
        }
    }

    private String asked(String line, int number) {
        Matcher m = SHOWN.matcher(line);
        if (!m.matches()) {
            complain("line " + number + " shows a call without its answer: " + line);
            return line;
        }
        calls.add(m.group(2));
        String want = m.group(3).equals("NONE") ? "HandsOrder.NONE" : m.group(3);
        return "due(\"line " + number + ": " + m.group(1) + "\", String.valueOf(" + m.group(1) + "), String.valueOf(" + want + "));";
    }

    private String program() {
        return "public final class Shown {\n"
                + "private static int wrong = 0;\n"
                + "private static void due(String call, String got, String want) {\n"
                + "if (!got.equals(want)) { wrong++; System.out.println(\"README.md \" + call + \" answered \" + got + \", it says \" + want); } }\n"
                + helpers
                + "public static int run() {\n" + steps + "return wrong;\n}\n}\n";
    }

    private void run(Path room) throws ReflectiveOperationException, IOException {
        Path source = room.resolve("Shown.java");
        Files.writeString(source, program());
        JavaCompiler compiler = ToolProvider.getSystemJavaCompiler();
        String classes = System.getProperty("java.class.path");
        if (compiler.run(null, null, null, "-cp", classes, "-d", room.toString(), source.toString()) != 0) {
            complain("its Java does not compile");
            return;
        }
        try (URLClassLoader loader = new URLClassLoader(new URL[] {room.toUri().toURL()})) {
            wrong += (int) loader.loadClass("Shown").getMethod("run").invoke(null);
        }
    }

    private void namesAll(String text) throws IOException {
        for (Method m : HandsOrder.class.getDeclaredMethods()) {
            if (Modifier.isPublic(m.getModifiers()) && !calls.contains(m.getName())) {
                complain("it does not show " + m.getName());
            }
        }
        File[] tests = new File("src/test/java").listFiles((dir, name) -> name.endsWith("Test.java"));
        for (File test : tests == null ? new File[0] : tests) {
            if (!text.contains("`" + test.getName().replace(".java", "") + "`")) {
                complain("it does not name " + test.getName());
            }
        }
    }

    private static void sweep(Path room) throws IOException {
        for (String name : new String[] {"Shown.java", "Shown.class"}) {
            Files.deleteIfExists(room.resolve(name));
        }
        Files.deleteIfExists(room);
    }

    public static void main(String[] args) throws ReflectiveOperationException, IOException {
        Path page = Path.of("README.md");
        ReadmeTest test = new ReadmeTest();
        test.read(Files.readAllLines(page));
        Path room = Files.createTempDirectory("readme");
        try {
            test.run(room);
        } finally {
            sweep(room);
        }
        test.namesAll(Files.readString(page));
        System.out.println(wrong == 0 ? "README.md holds, " + test.calls.size() + " answers" : wrong + " things in README.md are not so");
        System.exit(wrong == 0 ? 0 : 1);
    }
}
