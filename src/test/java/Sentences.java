import java.io.IOException;
import java.nio.file.Files;
import java.nio.file.Path;
import java.util.ArrayList;
import java.util.List;
import java.util.Map;
import java.util.TreeMap;
import java.util.function.IntBinaryOperator;
import java.util.function.IntToLongFunction;
import java.util.regex.Matcher;
import java.util.regex.Pattern;

/** Sentences of the document, each with a test of its own, and which of them do not hold. */
final class Sentences {
    static final int[] FAR_OFF = {-1, Integer.MIN_VALUE, Integer.MAX_VALUE};
    /** 6 is left out, since for some calls it is none of these. */
    static final int[] NO_WAYS = {-1, 7, 8, 32, Integer.MIN_VALUE, Integer.MAX_VALUE};
    /** Shifts of numbers wrap around at 32, of long ones at 64: neither is part 0. */
    static final int[] NEVER_PARTS = {-1, 9, 31, 32, 64, Integer.MIN_VALUE, Integer.MAX_VALUE};
    static final int[] NEVER_HEAPS = {0, -1, 512, 513, 1 << 16, Integer.MIN_VALUE, Integer.MAX_VALUE};

    /** Words with which the document names a boundary case. */
    private static final Pattern EDGE_WORDS = Pattern.compile("NONE|\\bnone\\b|\\bnobody\\b|\\bnothing\\b|\\bfalse\\b|\\bempty\\b|\\bstays\\b|\\bwithout\\b");
    private static final int PROMISES = 34;

    private final Map<Integer, List<String>> quoted = new TreeMap<>();
    private String now = "";
    private int tests = 0;
    private int wrong = 0;

    /** A test of one sentence, told in the document's own words. */
    void holds(int promise, String sentence, Runnable test) {
        now = "Promise " + promise + ", '" + sentence + "'";
        quoted.computeIfAbsent(promise, p -> new ArrayList<>()).add(sentence);
        tests++;
        try {
            test.run();
        } catch (RuntimeException e) {
            complain("threw " + e);
        }
    }

    private void complain(String what) {
        wrong++;
        System.out.println(now + ": " + what);
    }

    void due(String call, long got, long want) {
        if (got != want) {
            complain(call + " answered " + got + ", due is " + want);
        }
    }

    void due(String call, boolean got, boolean want) {
        if (got != want) {
            complain(call + " answered " + got + ", due is " + want);
        }
    }

    /** The same answer is due for each of the arguments. */
    void each(String call, int[] arguments, IntToLongFunction answer, long want) {
        for (int n : arguments) {
            due(call + " with " + n, answer.applyAsLong(n), want);
        }
    }

    /** The answers for 0, 1, 2, .. */
    void row(String call, IntToLongFunction answer, long... want) {
        for (int n = 0; n < want.length; n++) {
            due(call + " with " + n, answer.applyAsLong(n), want[n]);
        }
    }

    /** Of a thing with three parts: what is no half of a heap has no answer. */
    void noHalves(String call, IntBinaryOperator answer) {
        int[][] pairs = {{7, 0}, {7, 7}, {7, 8}, {7, 9}, {7, 513}, {3, 4}, {3, 5}, {3, 6}, {3, 7}, {6, 1}, {1, 1}, {1, 0}, {1, 2}, {4, 4},
            {8, 1}, {8, 8}, {9, 1}, {15, 1}, {15, 8}, {512, 1}, {513, 1}, {519, 1}, {0, 0}, {0, 1}};
        for (int[] pair : pairs) {
            due(call + " " + pair[0] + " " + pair[1], answer.applyAsInt(pair[0], pair[1]), -1);
        }
        each(call + " of heap", FAR_OFF, n -> answer.applyAsInt(n, 1), -1);
        each(call + " of half", FAR_OFF, n -> answer.applyAsInt(7, n), -1);
    }

    static long of(boolean b) {
        return b ? 1 : 0;
    }

    /** Each quote stands in the document, and what of a promise names a boundary case is quoted. */
    void compareWith(Path document) throws IOException {
        if (!Files.isReadable(document)) {
            System.out.println(document + " is not here: the quotes are not looked up");
            return;
        }
        String text = Files.readString(document).replaceAll("\\s+", " ");
        String terms = text.substring(0, text.indexOf("## Promise 1:"));
        for (int p = 1; p <= PROMISES; p++) {
            now = "Promise " + p;
            Matcher m = Pattern.compile("## Promise " + p + ": (.*?) ## ").matcher(text);
            if (!m.find()) {
                complain("is not in the document");
                continue;
            }
            String left = m.group(1);
            for (String sentence : quoted.getOrDefault(p, List.of())) {
                if (!m.group(1).contains(sentence) && !terms.contains(sentence)) {
                    complain("'" + sentence + "' is not in the document");
                }
                left = left.replace(sentence, "..");
            }
            if (EDGE_WORDS.matcher(left).find() || !quoted.containsKey(p)) {
                complain("has no test of its own for: " + left);
            }
        }
    }

    /** The exit code. */
    int end() {
        System.out.println(tests + " sentences, " + wrong + " answers are not as due");
        return wrong == 0 ? 0 : 1;
    }
}
