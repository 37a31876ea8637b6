import java.io.IOException;
import java.lang.reflect.Constructor;
import java.lang.reflect.Field;
import java.lang.reflect.Method;
import java.lang.reflect.Modifier;
import java.nio.file.Files;
import java.nio.file.Path;
import java.util.ArrayList;
import java.util.List;
import java.util.Set;
import java.util.TreeSet;
import java.util.regex.Matcher;
import java.util.regex.Pattern;

/** The face, and those rules of LANGUAGE.md that can be read off the source or the compiled class. */
public final class RulesTest {
    private static final String[] FACE = {
        "int feed(int, int, int, int, int)", "boolean end(int)", "int thing()", "int fault(int)", "int cell(int, int, int)", "int bars(int, int)",
        "boolean price(int, int)", "boolean bent(int, boolean)", "int cut(int, int, int)", "long heap(int, int)", "int net(int)", "int plan(int, int)",
        "int ring(int, int, int)", "int missing(int)", "int down(int)", "long inOne(int, int, int)", "int view(int, int, int)", "int moves(int, int)",
        "int apart(int, int)", "int where(int)", "int together()", "boolean swollen(int, int, boolean)", "long safe(int)", "int safeCut(int, int, int)",
        "int holding(int)", "long oneByOne(int)", "int record()", "int judged(int)", "int pull(int, int, int, int)", "int like(int, int, int)",
        "int mirrored(int, int)", "int minutes(int, int, int)", "int time(int, int)"};
    private static final String[] FORBIDDEN = {"throw", "throws", "try", "catch", "finally", "synchronized", "assert", "double", "float",
        "protected", "volatile", "transient", "native", "var", "System", "Thread", "Random", "instanceof", "Exception", "Error", "Object"};

    private static int wrong = 0;

    private static void due(String what, boolean right) {
        if (!right) {
            wrong++;
            System.out.println("not so: " + what);
        }
    }

    private static String sign(Method m) {
        List<String> types = new ArrayList<>();
        for (Class<?> type : m.getParameterTypes()) {
            types.add(type.getSimpleName());
        }
        return m.getReturnType().getSimpleName() + " " + m.getName() + "(" + String.join(", ", types) + ")";
    }

    private static void face() {
        Class<?> face = HandsOrder.class;
        due("the class is public and final", Modifier.isPublic(face.getModifiers()) && Modifier.isFinal(face.getModifiers()));
        Set<String> open = new TreeSet<>();
        Set<String> names = new TreeSet<>();
        for (Method m : face.getDeclaredMethods()) {
            due(m.getName() + " is public or private", Modifier.isPublic(m.getModifiers()) || Modifier.isPrivate(m.getModifiers()));
            if (Modifier.isPublic(m.getModifiers())) {
                open.add(sign(m));
                names.add(m.getName());
            }
        }
        due("the public methods are " + open, open.equals(new TreeSet<>(List.of(FACE))));
        Constructor<?>[] makers = face.getDeclaredConstructors();
        due("one public constructor", makers.length == 1 && makers[0].getParameterCount() == 0 && Modifier.isPublic(makers[0].getModifiers()));
        for (Field f : face.getDeclaredFields()) {
            boolean none = f.getName().equals("NONE") && Modifier.isPublic(f.getModifiers()) && Modifier.isStatic(f.getModifiers());
            due(f.getName() + " is NONE or private", none || Modifier.isPrivate(f.getModifiers()));
        }
        checkClass(face, Set.of());
        Class<?>[] inside = face.getDeclaredClasses();
        due("at most twelve classes", inside.length + 1 <= 12);
        for (Class<?> c : inside) {
            due(c.getName() + " is static", Modifier.isStatic(c.getModifiers()) && !Modifier.isPublic(c.getModifiers()));
            checkClass(c, names);
        }
    }

    private static void checkClass(Class<?> c, Set<String> taken) {
        int fields = 0;
        for (Field f : c.getDeclaredFields()) {
            boolean fixed = Modifier.isStatic(f.getModifiers());
            fields += fixed ? 0 : 1;
            due(f.getName() + " is static and final", !fixed || Modifier.isFinal(f.getModifiers()));
        }
        due(c.getName() + " has at most twenty fields", fields <= 20);
        for (Method m : c.getDeclaredMethods()) {
            due(m + " has at most seven parameters", m.getParameterCount() <= 7);
            due(m + " has no name of the face", !taken.contains(m.getName()));
        }
    }

    /** The source without comments and without what stands in quotes. */
    private static String bare(String source) {
        return source.replaceAll("(?s)/\\*.*?\\*/", "").replaceAll("//[^\n]*", "").replaceAll("\"[^\"\n]*\"", "\"\"").replaceAll("'[^'\n]*'", "' '");
    }

    private static void source(String text) {
        for (String word : FORBIDDEN) {
            due("the word " + word + " does not stand in it", !Pattern.compile("\\b" + word + "\\b").matcher(text).find());
        }
        due("no lambda", !text.contains("->"));
        due("no method reference", !text.contains("::"));
        due("no function that ends in Exact", !text.contains("Exact"));
        due("no array of objects in two dimensions", !Pattern.compile("\\b[A-Z]\\w*\\[\\]\\[\\]").matcher(text).find());
        due("no join of texts by +", !text.contains("\"\" +") && !text.contains("+ \"\""));
        due("no endless loop", !text.contains("while (true)") && !text.contains("for (;;)"));
        Matcher imports = Pattern.compile("(?m)^import (.*);").matcher(text);
        while (imports.find()) {
            due(imports.group(1) + " may be used", Set.of("java.util.Arrays", "java.util.ArrayList", "java.util.List").contains(imports.group(1)));
        }
        Matcher library = Pattern.compile("\\b(Arrays|Math|Integer|Long)\\.(\\w+)").matcher(text);
        Set<String> fine = Set.of("fill", "copyOf", "copyOfRange", "max", "min", "abs", "bitCount", "compare", "floorDiv", "floorMod");
        while (library.find()) {
            due(library.group() + " may be used", fine.contains(library.group(2)));
        }
    }

    private static void lengths(String text) {
        int begin = -1;
        String[] lines = text.split("\n");
        for (int k = 0; k < lines.length; k++) {
            if (lines[k].matches("(    |        )(public|private|static|final|\\w+(\\[\\])?) ?.*\\).*\\{")) {
                begin = k;
            } else if (lines[k].matches("(    |        )\\}") && begin >= 0) {
                due("the method at line " + (begin + 1) + " is short", k - begin <= 60);
                begin = -1;
            }
        }
    }

    public static void main(String[] args) throws IOException {
        String text = bare(Files.readString(Path.of("src/main/java/HandsOrder.java")));
        face();
        source(text);
        lengths(text);
        System.out.println(wrong == 0 ? "the rules are kept" : wrong + " rules are not kept");
        System.exit(wrong == 0 ? 0 : 1);
    }
}
