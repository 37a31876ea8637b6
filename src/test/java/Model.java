import java.util.ArrayDeque;
import java.util.ArrayList;
import java.util.HashMap;
import java.util.HashSet;
import java.util.LinkedHashSet;
import java.util.List;
import java.util.Map;
import java.util.Set;
import java.util.regex.Matcher;
import java.util.regex.Pattern;

/** The document said once more, as slowly and plainly as can be, to compare the class with. */
final class Model {
    static final int NONE = -1;
    static final List<String> WAYS = List.of("east", "west", "north", "south", "up", "down");
    private static final int[][] STEP = {{1, 0, 0}, {-1, 0, 0}, {0, 1, 0}, {0, -1, 0}, {0, 0, 1}, {0, 0, -1}};

    record Cell(int x, int y, int z) {
        Cell moved(int way, int d) {
            return new Cell(x + d * STEP[way][0], y + d * STEP[way][1], z + d * STEP[way][2]);
        }

        Cell plus(Cell o) {
            return new Cell(x + o.x, y + o.y, z + o.z);
        }

        int at(int axis) {
            return axis == 0 ? x : axis == 1 ? y : z;
        }

        Cell with(int axis, int c) {
            return new Cell(axis == 0 ? c : x, axis == 1 ? c : y, axis == 2 ? c : z);
        }

        boolean inside() {
            return x >= 0 && x <= 7 && y >= 0 && y <= 7 && z >= 0 && z <= 7;
        }
    }

    record Part(String name, Set<Cell> cells) { }

    record Joint(int a, int b, Cell cell, int way) { }

    record Cut(int heap, int half, int way) { }

    record Step(int half, int way) { }

    record Token(String text, int place, char kind) { }

    static final class Fault extends RuntimeException {
        private static final long serialVersionUID = 1L;
        final int which;
        final int place;

        Fault(int which, int place) {
            this.which = which;
            this.place = place;
        }
    }

    interface Rule {
        boolean allows(int heap, int half, int way);
    }

    private String tape = "";
    private List<Part> parts = new ArrayList<>();
    private List<Joint> joints = new ArrayList<>();
    private final Set<Integer> bent = new HashSet<>();
    private final Set<List<Integer>> swollen = new HashSet<>();
    private final int[] prices = {1, 1, 1, 1, 1, 1, 0};
    private List<Integer> heaps = new ArrayList<>();
    private int fault = 0;
    private int faultPlace = NONE;
    private int[] judged = null;
    private final Map<List<Integer>, Boolean> barsKnown = new HashMap<>();
    private final Map<Integer, Long> ordersKnown = new HashMap<>();
    private final Map<Integer, Integer> leastKnown = new HashMap<>();

    private void forget() {
        barsKnown.clear();
        ordersKnown.clear();
        leastKnown.clear();
    }

    // ---- the tape and its texts

    int feed(int a, int b, int c, int d, int e) {
        if (tape.length() + 20 > 800) {
            return NONE;
        }
        StringBuilder more = new StringBuilder(tape);
        for (int n : new int[] {a, b, c, d, e}) {
            more.append((char) (n >>> 24)).append((char) (n >>> 16 & 255)).append((char) (n >>> 8 & 255)).append((char) (n & 255));
        }
        tape = more.toString();
        return tape.length();
    }

    boolean end(int n) {
        if (n < 0 || n > tape.length()) {
            return false;
        }
        tape = tape.substring(0, n);
        return true;
    }

    private static List<Token> tokens(String text) {
        List<Token> all = new ArrayList<>();
        Matcher m = Pattern.compile("([a-z]+)|([0-9]+)|(;)|([ \n]+)|(.)", Pattern.DOTALL).matcher(text);
        while (m.find()) {
            if (m.group(1) != null) {
                all.add(new Token(m.group(), m.start(), m.group().length() <= 6 ? 'w' : '?'));
            } else if (m.group(2) != null) {
                all.add(new Token(m.group(), m.start(), m.group().length() <= 3 ? 'n' : '?'));
            } else if (m.group(3) != null) {
                all.add(new Token(";", m.start(), ';'));
            } else if (m.group(5) != null) {
                all.add(new Token(m.group(), m.start(), '?'));
            }
        }
        all.add(new Token("", text.length(), '$'));
        return all;
    }

    private static boolean is(Token t, String word) {
        return t.kind == 'w' && t.text.equals(word);
    }

    private static void need(boolean right, int which, Token t) {
        if (!right) {
            throw new Fault(which, t.place);
        }
    }

    private static int named(List<Part> parts, String name) {
        for (int p = 0; p < parts.size(); p++) {
            if (parts.get(p).name.equals(name)) {
                return p;
            }
        }
        return NONE;
    }

    int thing() {
        List<Part> newParts = new ArrayList<>();
        List<Joint> newJoints = new ArrayList<>();
        List<Token> ts = tokens(tape);
        tape = "";
        try {
            readThing(ts, newParts, newJoints);
        } catch (Fault f) {
            fault = f.which;
            faultPlace = f.place;
            return NONE;
        }
        fault = 0;
        faultPlace = NONE;
        parts = newParts;
        joints = newJoints;
        bent.clear();
        swollen.clear();
        judged = null;
        forget();
        together();
        return parts.size();
    }

    private static void readThing(List<Token> ts, List<Part> parts, List<Joint> joints) {
        Set<String> keywords = new HashSet<>(WAYS);
        keywords.addAll(List.of("part", "box", "joint"));
        int at = 0;
        int boxes = 0;
        while (ts.get(at).kind != '$') {
            Token t = ts.get(at++);
            need(is(t, "part") || is(t, "joint"), 1, t);
            if (is(t, "part")) {
                need(parts.size() < 9, 3, t);
                Token name = ts.get(at++);
                need(name.kind == 'w' && !keywords.contains(name.text), 1, name);
                need(named(parts, name.text) == NONE, 2, name);
                Set<Cell> cells = new HashSet<>();
                need(is(ts.get(at), "box"), 1, ts.get(at));
                while (is(ts.get(at), "box")) {
                    Token box = ts.get(at++);
                    need(++boxes <= 24, 3, box);
                    int[] n = new int[6];
                    for (int k = 0; k < 6; k++) {
                        Token number = ts.get(at++);
                        need(number.kind == 'n', 1, number);
                        n[k] = Integer.parseInt(number.text);
                        need(k < 3 ? n[k] <= 7 : n[k] != 0 && n[k - 3] + n[k] - 1 <= 7, 4, number);
                    }
                    for (int i = 0; i < n[3] * n[4] * n[5]; i++) {
                        Cell c = new Cell(n[0] + i % n[3], n[1] + i / n[3] % n[4], n[2] + i / n[3] / n[4]);
                        need(parts.stream().noneMatch(p -> p.cells.contains(c)), 5, box);
                        cells.add(c);
                    }
                }
                parts.add(new Part(name.text, cells));
            } else {
                need(joints.size() < 8, 3, t);
                int[] pair = new int[2];
                for (int k = 0; k < 2; k++) {
                    Token name = ts.get(at++);
                    need(name.kind == 'w' && !keywords.contains(name.text), 1, name);
                    pair[k] = named(parts, name.text);
                    need(pair[k] != NONE && (k == 0 || pair[0] != pair[1]), 2, name);
                }
                int[] n = new int[3];
                for (int k = 0; k < 3; k++) {
                    Token number = ts.get(at++);
                    need(number.kind == 'n', 1, number);
                    n[k] = Integer.parseInt(number.text);
                    need(n[k] <= 7, 4, number);
                }
                Token way = ts.get(at++);
                need(way.kind == 'w' && WAYS.contains(way.text), 1, way);
                joints.add(new Joint(pair[0], pair[1], new Cell(n[0], n[1], n[2]), WAYS.indexOf(way.text)));
            }
            need(ts.get(at).kind == ';', 1, ts.get(at));
            at++;
        }
    }

    int fault(int what) {
        return what == 0 ? fault : what == 1 ? faultPlace : NONE;
    }

    // ---- parts, ways, cuts

    private int whole() {
        return (1 << parts.size()) - 1;
    }

    private boolean isPart(int p) {
        return p >= 0 && p < parts.size();
    }

    private static boolean isWay(int way) {
        return way >= 0 && way < 6;
    }

    private boolean isHeap(int heap) {
        return heap > 0 && heap <= whole();
    }

    private boolean isHalf(int heap, int half) {
        return isHeap(heap) && half > 0 && half != heap && (heap | half) == heap;
    }

    private static List<Integer> members(int set) {
        List<Integer> all = new ArrayList<>();
        for (int p = 0; p < 9; p++) {
            if ((set & 1 << p) != 0) {
                all.add(p);
            }
        }
        return all;
    }

    private static List<Integer> halves(int heap) {
        List<Integer> all = new ArrayList<>();
        for (int half = 1; half < heap; half++) {
            if ((half | heap) == heap) {
                all.add(half);
            }
        }
        return all;
    }

    private static boolean one(int heap) {
        return Integer.bitCount(heap) == 1;
    }

    private Set<Cell> cells(int set) {
        Set<Cell> all = new HashSet<>();
        for (int p : members(set)) {
            all.addAll(parts.get(p).cells);
        }
        return all;
    }

    int cell(int x, int y, int z) {
        for (int p = 0; p < parts.size(); p++) {
            if (parts.get(p).cells.contains(new Cell(x, y, z))) {
                return p;
            }
        }
        return NONE;
    }

    private Set<Cell> body(int p, boolean swell) {
        Set<Cell> all = new HashSet<>(parts.get(p).cells);
        for (int way = 0; swell && way < 6; way++) {
            if (swollen.contains(List.of(p, way))) {
                for (Cell c : parts.get(p).cells) {
                    Cell more = c.moved(way, 1);
                    if (more.inside() && cell(more.x, more.y, more.z) == NONE) {
                        all.add(more);
                    }
                }
            }
        }
        return all;
    }

    private boolean qBarsP(int q, int p, int way, boolean swell) {
        return barsKnown.computeIfAbsent(List.of(q, p, way, swell ? 1 : 0), key -> findBars(q, p, way, swell));
    }

    private boolean findBars(int q, int p, int way, boolean swell) {
        if (q == p || bent.contains(p) || bent.contains(q)) {
            return false;
        }
        Set<Cell> other = body(q, swell);
        for (Cell c : body(p, swell)) {
            for (int k = 1; k < 8; k++) {
                if (other.contains(c.moved(way, k))) {
                    return true;
                }
            }
        }
        return false;
    }

    int bars(int p, int way) {
        if (!isPart(p) || !isWay(way)) {
            return NONE;
        }
        int set = 0;
        for (int q = 0; q < parts.size(); q++) {
            set |= qBarsP(q, p, way, false) ? 1 << q : 0;
        }
        return set;
    }

    boolean price(int way, int v) {
        if (way < 0 || way > 6 || v < 0 || v > 99) {
            return false;
        }
        prices[way] = v;
        forget();
        return true;
    }

    boolean bent(int p, boolean is) {
        if (!isPart(p) || bent.contains(p) == is) {
            return false;
        }
        forget();
        return is ? bent.add(p) : bent.remove(p);
    }

    boolean swollen(int p, int way, boolean is) {
        if (!isPart(p) || !isWay(way) || swollen.contains(List.of(p, way)) == is) {
            return false;
        }
        forget();
        return is ? swollen.add(List.of(p, way)) : swollen.remove(List.of(p, way));
    }

    private int barring(int heap, int half, int way, boolean swell) {
        for (int q : members(heap & ~half)) {
            for (int p : members(half)) {
                if (qBarsP(q, p, way, swell)) {
                    return q;
                }
            }
        }
        return NONE;
    }

    private int unreached(int heap, int half) {
        Set<Cell> all = cells(heap);
        for (int j = 0; j < joints.size(); j++) {
            Joint joint = joints.get(j);
            int a = 1 << joint.a;
            int b = 1 << joint.b;
            int rest = heap & ~half;
            if ((half & a) != 0 && (rest & b) != 0 || (half & b) != 0 && (rest & a) != 0) {
                for (int k = 1; k < 8; k++) {
                    if (all.contains(joint.cell.moved(joint.way, k))) {
                        return j;
                    }
                }
            }
        }
        return NONE;
    }

    private boolean good(int heap, int half, int way) {
        return barring(heap, half, way, false) == NONE && unreached(heap, half) == NONE;
    }

    private boolean safeOne(int heap, int half, int way) {
        return good(heap, half, way) && barring(heap, half, way, true) == NONE;
    }

    int cut(int heap, int half, int way) {
        return !isHalf(heap, half) || !isWay(way) ? NONE : good(heap, half, way) ? 1 : 0;
    }

    int safeCut(int heap, int half, int way) {
        return !isHalf(heap, half) || !isWay(way) ? NONE : safeOne(heap, half, way) ? 1 : 0;
    }

    // ---- the net

    private static boolean some(Rule rule, int heap, int half) {
        for (int way = 0; way < 6; way++) {
            if (rule.allows(heap, half, way)) {
                return true;
            }
        }
        return false;
    }

    private static List<Integer> partings(Rule rule, int heap) {
        List<Integer> all = new ArrayList<>();
        for (int half : halves(heap)) {
            int rest = heap & ~half;
            if (half < rest && (some(rule, heap, half) || some(rule, heap, rest))) {
                all.add(half);
            }
        }
        return all;
    }

    private static long orders(Rule rule, int heap, int glued, Map<Integer, Long> known) {
        if (known.containsKey(heap)) {
            return known.get(heap);
        }
        long sum = one(heap) || heap == glued ? 1 : 0;
        if (sum == 0) {
            for (int half : partings(rule, heap)) {
                sum += orders(rule, half, glued, known) * orders(rule, heap & ~half, glued, known);
            }
        }
        known.put(heap, sum);
        return sum;
    }

    private int least(Rule rule, int heap, int glued, Map<Integer, Integer> known) {
        if (known.containsKey(heap)) {
            return known.get(heap);
        }
        int best = one(heap) || heap == glued ? 0 : NONE;
        if (best != 0) {
            for (int half : halves(heap)) {
                for (int way = 0; way < 6; way++) {
                    int cost = rule.allows(heap, half, way) ? cost(rule, new Cut(heap, half, way), glued, known) : NONE;
                    best = cost != NONE && (best == NONE || cost < best) ? cost : best;
                }
            }
        }
        known.put(heap, best);
        return best;
    }

    private int cost(Rule rule, Cut cut, int glued, Map<Integer, Integer> known) {
        int a = least(rule, cut.half, glued, known);
        int b = least(rule, cut.heap & ~cut.half, glued, known);
        return a == NONE || b == NONE ? NONE : a + b + prices[cut.way] + prices[6] * hands(cut.heap);
    }

    private long orders(int heap) {
        return orders(this::good, heap, 0, ordersKnown);
    }

    private int least(int heap) {
        return least(this::good, heap, 0, leastKnown);
    }

    private Set<Integer> netHeaps(boolean live) {
        Set<Integer> all = new LinkedHashSet<>();
        ArrayDeque<Integer> todo = new ArrayDeque<>();
        if (whole() != 0 && (!live || orders(whole()) > 0)) {
            todo.add(whole());
        }
        while (!todo.isEmpty()) {
            int heap = todo.remove();
            if (all.add(heap)) {
                for (int half : partings(this::good, heap)) {
                    int rest = heap & ~half;
                    if (!live || orders(half) > 0 && orders(rest) > 0) {
                        todo.add(half);
                        todo.add(rest);
                    }
                }
            }
        }
        return all;
    }

    private int rounds(int heap) {
        if (one(heap)) {
            return 0;
        }
        int best = NONE;
        for (int half : partings(this::good, heap)) {
            int a = rounds(half);
            int b = rounds(heap & ~half);
            if (a != NONE && b != NONE && (best == NONE || 1 + Math.max(a, b) < best)) {
                best = 1 + Math.max(a, b);
            }
        }
        return best;
    }

    private boolean rests(int heap, int held) {
        int floor = cells(heap).stream().mapToInt(Cell::z).min().orElse(0);
        Set<Integer> resting = new HashSet<>(members(held));
        boolean more = true;
        while (more) {
            more = false;
            for (int p : members(heap)) {
                boolean stands = false;
                for (Cell c : parts.get(p).cells) {
                    int below = cell(c.x, c.y, c.z - 1);
                    stands |= c.z == floor || below != p && resting.contains(below);
                }
                more |= stands && resting.add(p);
            }
        }
        return resting.size() == Integer.bitCount(heap);
    }

    int holding(int heap) {
        if (!isHeap(heap)) {
            return NONE;
        }
        for (int n = 0; n <= 9; n++) {
            for (int set = 0; set <= heap; set++) {
                if ((set | heap) == heap && Integer.bitCount(set) == n && rests(heap, set)) {
                    return set;
                }
            }
        }
        throw new IllegalStateException();
    }

    private boolean tips(int heap) {
        Set<Cell> all = cells(heap);
        int n = all.size();
        int floor = all.stream().mapToInt(Cell::z).min().orElse(0);
        for (int axis = 0; axis < 2; axis++) {
            int a = axis;
            int sum = all.stream().mapToInt(c -> 2 * c.at(a) + 1).sum();
            int lo = all.stream().filter(c -> c.z == floor).mapToInt(c -> c.at(a)).min().orElse(0);
            int hi = all.stream().filter(c -> c.z == floor).mapToInt(c -> c.at(a)).max().orElse(0);
            if (sum < 2 * n * lo || sum > 2 * n * (hi + 1)) {
                return true;
            }
        }
        return false;
    }

    private int hands(int heap) {
        return Integer.bitCount(holding(heap)) + (tips(heap) ? 1 : 0);
    }

    long heap(int set, int what) {
        if (!isHeap(set)) {
            return NONE;
        }
        return switch (what) {
            case 0 -> netHeaps(false).contains(set) ? 1 : 0;
            case 1 -> partings(this::good, set).size();
            case 2 -> orders(set);
            case 3 -> least(set);
            case 4 -> rounds(set);
            case 5 -> hands(set);
            case 6 -> tips(set) ? 1 : 0;
            case 7 -> netHeaps(true).contains(set) ? 1 : 0;
            default -> NONE;
        };
    }

    int net(int what) {
        return switch (what) {
            case 0 -> netHeaps(false).size();
            case 1 -> netHeaps(true).size();
            case 2 -> (int) netHeaps(false).stream().filter(h -> !one(h) && partings(this::good, h).isEmpty()).count();
            case 3 -> parts.size();
            case 4 -> joints.size();
            case 5 -> whole();
            default -> NONE;
        };
    }

    private void plan(int heap, List<Cut> into) {
        if (one(heap)) {
            return;
        }
        for (int half : halves(heap)) {
            for (int way = 0; way < 6; way++) {
                Cut cut = new Cut(heap, half, way);
                if (good(heap, half, way) && cost(this::good, cut, 0, leastKnown) == least(heap)) {
                    into.add(cut);
                    plan(half, into);
                    plan(heap & ~half, into);
                    return;
                }
            }
        }
    }

    private List<Cut> plan() {
        List<Cut> all = new ArrayList<>();
        if (whole() != 0 && least(whole()) != NONE) {
            plan(whole(), all);
        }
        return all;
    }

    int plan(int k, int what) {
        List<Cut> all = plan();
        if (k < 0 || k >= all.size() || what < 0 || what > 2) {
            return NONE;
        }
        Cut cut = all.get(k);
        return what == 0 ? cut.heap : what == 1 ? cut.half : cut.way;
    }

    long safe(int what) {
        if (what == 0) {
            return whole() == 0 ? 0 : orders(this::safeOne, whole(), 0, new HashMap<>());
        }
        if (what == 1) {
            return whole() == 0 ? NONE : least(this::safeOne, whole(), 0, new HashMap<>());
        }
        List<Cut> all = what == 2 ? plan() : List.of();
        for (int k = 0; k < all.size(); k++) {
            if (!safeOne(all.get(k).heap, all.get(k).half, all.get(k).way)) {
                return k;
            }
        }
        return NONE;
    }

    private void rings(List<Integer> path, int heap, int way, List<List<Integer>> into) {
        int last = path.get(path.size() - 1);
        if (path.size() > 1 && qBarsP(path.get(0), last, way, false)) {
            into.add(new ArrayList<>(path));
        }
        for (int q : members(heap)) {
            if (q > path.get(0) && !path.contains(q) && qBarsP(q, last, way, false)) {
                path.add(q);
                rings(path, heap, way, into);
                path.remove(path.size() - 1);
            }
        }
    }

    int ring(int heap, int way, int what) {
        if (!isHeap(heap) || !isWay(way)) {
            return NONE;
        }
        List<List<Integer>> all = new ArrayList<>();
        for (int p : members(heap)) {
            rings(new ArrayList<>(List.of(p)), heap, way, all);
        }
        // they were found in the order of their numbers, so the first of the shortest is due
        List<Integer> best = null;
        for (List<Integer> ring : all) {
            best = best == null || ring.size() < best.size() ? ring : best;
        }
        if (best == null || what < 0 || what > best.size()) {
            return NONE;
        }
        return what == 0 ? best.size() : best.get(what - 1);
    }

    int missing(int p) {
        int best = NONE;
        for (int heap : netHeaps(true)) {
            if (isPart(p) && (heap & 1 << p) == 0) {
                int more = best == NONE ? 1 : Integer.bitCount(heap) - Integer.bitCount(best);
                best = more > 0 || more == 0 && heap < best ? heap : best;
            }
        }
        return best;
    }

    int down(int p) {
        if (!isPart(p)) {
            return NONE;
        }
        Set<Integer> now = new HashSet<>(Set.of(whole()));
        for (int cuts = 0; cuts < 9; cuts++) {
            if (now.contains(1 << p)) {
                return cuts;
            }
            Set<Integer> next = new HashSet<>();
            for (int heap : now) {
                for (int half : partings(this::good, heap)) {
                    next.add((half & 1 << p) != 0 ? half : heap & ~half);
                }
            }
            now = next;
        }
        return NONE;
    }

    long inOne(int p, int q, int what) {
        if (!isPart(p) || !isPart(q) || p == q || what < 0 || what > 1) {
            return NONE;
        }
        int glued = 1 << p | 1 << q;
        Rule rule = (heap, half, way) -> {
            int in = half & glued;
            boolean parts = (heap & glued) == glued && in != 0 && in != glued;
            return !parts && good(heap, half, way);
        };
        return what == 0 ? orders(rule, whole(), glued, new HashMap<>()) : least(rule, whole(), glued, new HashMap<>());
    }

    long oneByOne(int heap) {
        return isHeap(heap) ? lonely(heap, new HashMap<>()) : NONE;
    }

    private long lonely(int heap, Map<Integer, Long> known) {
        if (one(heap)) {
            return 1;
        }
        if (!known.containsKey(heap)) {
            long sum = 0;
            for (int half : partings(this::good, heap)) {
                int rest = heap & ~half;
                sum += one(half) || one(rest) ? lonely(half, known) * lonely(rest, known) : 0;
            }
            known.put(heap, sum);
        }
        return known.get(heap);
    }

    // ---- what is seen and moved

    private static Cell firstMet(Set<Cell> all, Cell onLine, int side) {
        Cell best = null;
        for (Cell c : all) {
            boolean same = c.with(side / 2, 0).equals(onLine.with(side / 2, 0));
            if (same && (best == null || (side % 2 == 0 ? c.at(side / 2) > best.at(side / 2) : c.at(side / 2) < best.at(side / 2)))) {
                best = c;
            }
        }
        return best;
    }

    int view(int heap, int half, int way) {
        if (!isHalf(heap, half) || way < 0 || way > 6) {
            return NONE;
        }
        if (way == 6) {
            int best = 0;
            for (int w = 1; w < 6; w++) {
                best = view(heap, half, w) > view(heap, half, best) ? w : best;
            }
            return best;
        }
        Set<Cell> all = cells(heap);
        Set<Cell> mine = cells(half);
        Set<Cell> seen = new HashSet<>();
        for (Cell c : all) {
            seen.add(firstMet(all, c, way));
        }
        return (int) seen.stream().filter(mine::contains).count();
    }

    private static Set<Cell> moved(Set<Cell> cells, Cell by) {
        Set<Cell> all = new HashSet<>();
        for (Cell c : cells) {
            all.add(c.plus(by));
        }
        return all;
    }

    private static boolean meet(Set<Cell> a, Set<Cell> b) {
        for (Cell c : a) {
            if (b.contains(c)) {
                return true;
            }
        }
        return false;
    }

    int moves(int heap, int half) {
        if (!isHalf(heap, half)) {
            return NONE;
        }
        Set<Cell> mine = cells(half);
        Set<Cell> rest = cells(heap & ~half);
        Map<Cell, Integer> far = new HashMap<>();
        ArrayDeque<Cell> todo = new ArrayDeque<>();
        Cell start = new Cell(0, 0, 0);
        far.put(start, 0);
        todo.add(start);
        while (!todo.isEmpty()) {
            Cell at = todo.remove();
            for (int way = 0; way < 6; way++) {
                boolean leaves = true;
                for (int k = 1; k <= 17 && leaves; k++) {
                    leaves = !meet(moved(mine, at.moved(way, k)), rest);
                }
                if (leaves) {
                    return far.get(at);
                }
            }
            for (int way = 0; way < 6; way++) {
                Cell next = at.moved(way, 1);
                boolean near = Math.abs(next.x) <= 8 && Math.abs(next.y) <= 8 && Math.abs(next.z) <= 8;
                if (near && !far.containsKey(next) && !meet(moved(mine, next), rest)) {
                    far.put(next, far.get(at) + 1);
                    todo.add(next);
                }
            }
        }
        return NONE;
    }

    int pull(int heap, int half, int way, int side) {
        if (!isHalf(heap, half) || !isWay(way) || !isWay(side)) {
            return NONE;
        }
        Set<Cell> rest = cells(heap & ~half);
        for (int d = 0; d <= 16; d++) {
            Set<Cell> mine = moved(cells(half), new Cell(0, 0, 0).moved(way, d));
            boolean clear = true;
            for (Cell c : mine) {
                Cell first = firstMet(mine, c, side);
                for (int k = 1; k <= 40; k++) {
                    clear &= !rest.contains(first.moved(side, k));
                }
            }
            if (clear) {
                return d;
            }
        }
        return NONE;
    }

    private static boolean alike(Set<Cell> a, Set<Cell> b) {
        if (a.size() != b.size()) {
            return false;
        }
        Cell first = a.iterator().next();
        for (Cell c : b) {
            if (moved(a, new Cell(c.x - first.x, c.y - first.y, c.z - first.z)).equals(b)) {
                return true;
            }
        }
        return false;
    }

    private static Set<Cell> turned(Set<Cell> cells, int axis, int sum) {
        Set<Cell> all = new HashSet<>();
        for (Cell c : cells) {
            all.add(c.with(axis, sum - c.at(axis)));
        }
        return all;
    }

    int like(int p, int q, int what) {
        if (!isPart(p) || !isPart(q) || what < 0 || what > 3) {
            return NONE;
        }
        Set<Cell> a = parts.get(p).cells;
        return alike(what == 0 ? a : turned(a, what - 1, 7), parts.get(q).cells) ? 1 : 0;
    }

    int mirrored(int p, int axis) {
        if (!isPart(p) || axis < 0 || axis > 2) {
            return NONE;
        }
        Set<Cell> a = parts.get(p).cells;
        int lo = a.stream().mapToInt(c -> c.at(axis)).min().orElse(0);
        int hi = a.stream().mapToInt(c -> c.at(axis)).max().orElse(0);
        boolean own = alike(turned(a, axis, 7), a);
        return !own && !meet(turned(a, axis, lo + hi), cells(whole() & ~(1 << p))) ? 1 : 0;
    }

    private int minutesOf(int heap, int half, int way) {
        Set<Cell> rest = cells(heap & ~half);
        int[] lo = new int[3];
        int[] hi = new int[3];
        for (int axis = 0; axis < 3; axis++) {
            int a = axis;
            lo[a] = rest.stream().mapToInt(c -> c.at(a)).min().orElse(0);
            hi[a] = rest.stream().mapToInt(c -> c.at(a)).max().orElse(0);
        }
        for (int d = 0; d <= 16; d++) {
            boolean out = true;
            for (Cell c : moved(cells(half), new Cell(0, 0, 0).moved(way, d))) {
                out &= c.x < lo[0] || c.x > hi[0] || c.y < lo[1] || c.y > hi[1] || c.z < lo[2] || c.z > hi[2];
            }
            if (out) {
                return d;
            }
        }
        throw new IllegalStateException();
    }

    int minutes(int heap, int half, int way) {
        return cut(heap, half, way) == 1 ? minutesOf(heap, half, way) : NONE;
    }

    int time(int heap, int what) {
        return isHeap(heap) && (what == 0 || what == 1) ? time(heap, what == 1, new HashMap<>()) : NONE;
    }

    private int time(int heap, boolean two, Map<Integer, Integer> known) {
        if (one(heap)) {
            return 0;
        }
        if (known.containsKey(heap)) {
            return known.get(heap);
        }
        int best = NONE;
        for (int half : halves(heap)) {
            int a = time(half, two, known);
            int b = time(heap & ~half, two, known);
            for (int way = 0; way < 6 && a != NONE && b != NONE; way++) {
                if (good(heap, half, way)) {
                    int all = minutesOf(heap, half, way) + (two ? Math.max(a, b) : a + b);
                    best = best == NONE || all < best ? all : best;
                }
            }
        }
        known.put(heap, best);
        return best;
    }

    // ---- taking apart

    private static int around(List<Integer> heaps, int half) {
        for (int heap : heaps) {
            if (half > 0 && half != heap && (half | heap) == heap) {
                return heap;
            }
        }
        return NONE;
    }

    private static void divide(List<Integer> heaps, int heap, int half) {
        heaps.remove((Integer) heap);
        heaps.add(half);
        heaps.add(heap & ~half);
    }

    int apart(int half, int way) {
        int heap = around(heaps, half);
        if (heap == NONE || !isWay(way) || !good(heap, half, way)) {
            return NONE;
        }
        divide(heaps, heap, half);
        return heaps.size();
    }

    int where(int p) {
        for (int heap : heaps) {
            if (isPart(p) && (heap & 1 << p) != 0) {
                return heap;
            }
        }
        return NONE;
    }

    int together() {
        int cuts = Math.max(0, heaps.size() - 1);
        heaps = new ArrayList<>();
        if (whole() != 0) {
            heaps.add(whole());
        }
        return cuts;
    }

    int record() {
        List<Step> steps = new ArrayList<>();
        List<Token> ts = tokens(tape);
        tape = "";
        try {
            readRecord(ts, steps);
        } catch (Fault f) {
            fault = f.which;
            faultPlace = f.place;
            return NONE;
        }
        fault = 0;
        faultPlace = NONE;
        judged = judge(steps);
        return judged[0];
    }

    private void readRecord(List<Token> ts, List<Step> steps) {
        int at = 0;
        while (ts.get(at).kind != '$') {
            int half = 0;
            do {
                at += half == 0 ? 0 : 1;
                Token name = ts.get(at++);
                need(name.kind == 'w' && !name.text.equals("and") && !WAYS.contains(name.text), 1, name);
                int p = named(parts, name.text);
                need(p != NONE && (half & 1 << p) == 0, 2, name);
                need(half != 0 || steps.size() < 16, 3, name);
                half |= 1 << p;
            } while (is(ts.get(at), "and"));
            Token way = ts.get(at++);
            need(way.kind == 'w' && WAYS.contains(way.text), 1, way);
            need(ts.get(at).kind == ';', 1, ts.get(at));
            at++;
            steps.add(new Step(half, WAYS.indexOf(way.text)));
        }
    }

    private int[] judge(List<Step> steps) {
        List<Integer> there = new ArrayList<>(List.of(whole()));
        int right = 0;
        for (Step s : steps) {
            int heap = around(there, s.half);
            if (heap == NONE) {
                return new int[] {right, steps.size(), 1, NONE};
            }
            if (barring(heap, s.half, s.way, false) != NONE) {
                return new int[] {right, steps.size(), 2, barring(heap, s.half, s.way, false)};
            }
            if (unreached(heap, s.half) != NONE) {
                return new int[] {right, steps.size(), 3, unreached(heap, s.half)};
            }
            divide(there, heap, s.half);
            right++;
        }
        return new int[] {right, steps.size(), 0, NONE};
    }

    int judged(int what) {
        return judged == null || what < 0 || what > 3 ? NONE : judged[what];
    }
}
