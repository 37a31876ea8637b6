import java.util.ArrayList;
import java.util.HashSet;
import java.util.List;
import java.util.Random;
import java.util.Set;

/** Runs of calls, the same ones each time, on the class and on the model beside it. */
public final class ModelTest {
    private static final String[] NAMES = {"a", "and", "bolt", "lid", "cup", "ring", "washer", "e", "tub", "x", "boxes"};
    /** Which kind each argument of a call has: p part, w way, s set, h half of the set before it, t what, n a small number. */
    static final String[] KINDS = {
        "nnn", "pw", "wn", "pnnb", "shw", "st", "t", "nt", "swt", "p", "p", "ppt", "shw", "sh", "hw", "p", "",
        "pwnb", "t", "shw", "s", "s", "t", "shww", "ppt", "pt", "shw", "st", "n", "nnnn"};

    private final Random random;
    private int wrong = 0;

    private ModelTest(long seed) {
        random = new Random(seed);
    }

    private int below(int n) {
        return random.nextInt(n);
    }

    private String thingText(int parts, int edge) {
        StringBuilder text = new StringBuilder();
        Set<Integer> taken = new HashSet<>();
        List<String> names = new ArrayList<>();
        for (int p = 0; p < parts; p++) {
            StringBuilder part = new StringBuilder();
            Set<Integer> own = new HashSet<>();
            for (int tries = 0; tries < 40 && (own.isEmpty() || below(3) != 0); tries++) {
                int[] n = new int[6];
                for (int k = 0; k < 3; k++) {
                    n[k] = below(edge);
                    n[k + 3] = 1 + below(Math.min(3, edge - n[k]));
                }
                Set<Integer> box = new HashSet<>();
                for (int i = 0; i < n[3] * n[4] * n[5]; i++) {
                    box.add(n[0] + i % n[3] + 8 * (n[1] + i / n[3] % n[4]) + 64 * (n[2] + i / n[3] / n[4]));
                }
                if (box.stream().noneMatch(taken::contains)) {
                    own.addAll(box);
                    part.append(" box");
                    for (int c : n) {
                        part.append(' ').append(c);
                    }
                    if (own.size() > 8) {
                        break;
                    }
                }
            }
            if (!own.isEmpty()) {
                names.add(NAMES[(below(60) == 0 ? p + 1 : p) % NAMES.length]);
                taken.addAll(own);
                text.append("part ").append(names.get(names.size() - 1)).append(part).append(";\n");
            }
            if (names.size() > 1 && below(4) == 0) {
                int one = below(names.size());
                int other = below(40) == 0 ? one : (one + 1 + below(names.size() - 1)) % names.size();
                text.append("joint ").append(names.get(one)).append(' ').append(names.get(other));
                text.append(' ').append(below(edge)).append(' ').append(below(edge)).append(' ').append(below(edge));
                text.append(' ').append(Model.WAYS.get(below(6))).append(';');
            }
        }
        return text.toString();
    }

    /** Parts that grow into one another in a small room, so that they bar and lock one another. */
    private String tangle(int parts, int cells) {
        int[] size = {2 + below(3), 2 + below(3), 1 + below(3)};
        int[] corner = {below(9 - size[0]), below(9 - size[1]), below(9 - size[2])};
        int volume = size[0] * size[1] * size[2];
        int[] owner = new int[volume];
        for (int k = 0; k < Math.min(volume, cells); k++) {
            int at = below(volume);
            owner[at] = 1 + below(parts);
            int near = at + (at % size[0] + 1 < size[0] ? 1 : 0);
            owner[near] = below(2) == 0 ? owner[at] : owner[near];
        }
        StringBuilder text = new StringBuilder();
        for (int p = 1; p <= parts; p++) {
            StringBuilder part = new StringBuilder();
            for (int at = 0; at < volume; at++) {
                if (owner[at] == p) {
                    int x = at % size[0];
                    int run = 1;
                    while (x + run < size[0] && owner[at + run] == p) {
                        run++;
                    }
                    part.append(" box ").append(corner[0] + x).append(' ').append(corner[1] + at / size[0] % size[1]).append(' ');
                    part.append(corner[2] + at / size[0] / size[1]).append(' ').append(run).append(" 1 1");
                    at += run - 1;
                }
            }
            if (part.length() > 0) {
                text.append("part ").append(NAMES[p - 1]).append(part).append(";");
            }
        }
        return text.toString();
    }

    private String anyThing(int most, int edge) {
        return below(2) == 0 ? thingText(1 + below(most), edge) : tangle(2 + below(most - 1), 6 + below(30));
    }

    private String recordText(int parts) {
        StringBuilder text = new StringBuilder();
        for (int k = below(below(8) == 0 ? 20 : 5); k >= 0; k--) {
            int name = below(parts + 1);
            text.append(nameFor(name, parts));
            for (int more = below(3); more > 0; more--) {
                name = below(8) == 0 ? below(parts + 1) : name + 1;
                text.append(" and ").append(nameFor(name, parts));
            }
            text.append(' ').append(Model.WAYS.get(below(6))).append(below(20) == 0 ? "" : ";");
        }
        return text.toString();
    }

    /** Mostly the name of a part; and, which can't be told in a record, is left out often. */
    private String nameFor(int k, int parts) {
        int n = below(30) == 0 ? k : k % Math.max(1, parts);
        return NAMES[n == 1 && below(8) != 0 ? 0 : n % NAMES.length];
    }

    /** Breaks a text here and there, so that all faults come. */
    private String broken(String text) {
        String[] pieces = {";", " ", "8", "0", "7", "part ", "box ", "joint ", "up", "a", "and ", "1000", "toolong", "#", "", "\n", "" + (char) 200};
        StringBuilder all = new StringBuilder(text);
        for (int k = 1 + below(2); k > 0 && all.length() > 0; k--) {
            int at = below(all.length());
            int to = Math.min(all.length(), at + below(4));
            all.replace(at, to, pieces[below(pieces.length)]);
        }
        return all.substring(0, Math.min(all.length(), below(3) == 0 ? below(all.length() + 1) : 800));
    }

    private int argument(char kind, int parts, int before) {
        if (below(40) == 0) {
            return new int[] {-1, Integer.MIN_VALUE, Integer.MAX_VALUE, 512, 1 << 20, 9, 16, 100, 7}[below(9)];
        }
        switch (kind) {
            case 'p': return below(Math.max(1, parts) + (below(20) == 0 ? 1 : 0));
            case 'w': return below(below(20) == 0 ? 8 : 6);
            case 's': return below(2) == 0 ? (1 << parts) - 1 : below((1 << parts) + 1);
            case 'h': return below(20) == 0 ? below(1 << parts) : someOf(before, parts);
            case 't': return below(below(4) == 0 ? 9 : 3);
            case 'b': return below(2);
            default: return below(9);
        }
    }

    private int someOf(int set, int parts) {
        int half = 0;
        for (int tries = 0; tries < 5 && (half == 0 || half == set); tries++) {
            half = set & below(1 << parts);
        }
        return half;
    }

    private void anyCall(Pair pair, int parts) {
        int which = below(Pair.CALLS);
        int[] args = new int[4];
        int set = (1 << parts) - 1;
        for (int k = 0; k < KINDS[which].length(); k++) {
            args[k] = argument(KINDS[which].charAt(k), parts, set);
            set = KINDS[which].charAt(k) == 's' ? args[k] : set;
        }
        pair.call(which, args[0], args[1], args[2], args[3]);
    }

    private void run(int most, int edge, int calls) {
        Pair pair = new Pair();
        int parts = 0;
        for (int k = 0; k < calls && !pair.isWrong(); k++) {
            int turn = below(40);
            if (turn == 0 || k == 3 || parts < 2 && turn < 12) {
                String text = anyThing(most, edge);
                long answer = pair.thing(below(4) == 0 ? broken(text) : text);
                parts = answer < 0 ? parts : (int) answer;
            } else if (turn < 4) {
                pair.record(below(4) == 0 ? broken(recordText(parts)) : recordText(parts));
            } else {
                anyCall(pair, parts);
            }
        }
        wrong += pair.isWrong() ? 1 : 0;
    }

    /** All halves of all heaps of one thing. */
    private void everyCut(int most, int edge) {
        Pair pair = new Pair();
        long parts = pair.thing(anyThing(most, edge));
        for (int heap = 1; heap < 1 << parts && !pair.isWrong(); heap++) {
            for (int what = 0; what < 9; what++) {
                pair.call(5, heap, what, 0, 0);
                pair.call(27, heap, what, 0, 0);
            }
            pair.call(20, heap, 0, 0, 0);
            pair.call(21, heap, 0, 0, 0);
            for (int half = 1; half < heap; half++) {
                if ((half | heap) == heap) {
                    pair.call(13, heap, half, 0, 0);
                    for (int way = 0; way < 7; way++) {
                        pair.call(4, heap, half, way, 0);
                        pair.call(12, heap, half, way, 0);
                        pair.call(26, heap, half, way, 0);
                        pair.call(23, heap, half, way, below(6));
                    }
                }
            }
        }
        wrong += pair.isWrong() ? 1 : 0;
    }

    /** A thing of many parts, and each call some times. */
    private void large(int parts) {
        Pair pair = new Pair();
        long told = pair.thing(thingText(parts, 6));
        for (int k = 0; k < 60 && !pair.isWrong(); k++) {
            anyCall(pair, (int) Math.max(0, told));
        }
        wrong += pair.isWrong() ? 1 : 0;
    }

    private void texts(int number) {
        Pair pair = new Pair();
        pair.thing("part a box 0 0 0 1 1 1; part and box 5 5 5 1 1 1; part lid box 1 0 0 1 1 1; part bolt box 0 0 1 1 1 1;");
        for (int k = 0; k < number && !pair.isWrong(); k++) {
            if (below(3) == 0) {
                pair.record(broken(recordText(4)));
            } else {
                pair.thing(broken(thingText(1 + below(5), 6)));
            }
        }
        wrong += pair.isWrong() ? 1 : 0;
    }

    public static void main(String[] args) {
        int scale = args.length > 0 ? Integer.parseInt(args[0]) : 1;
        ModelTest test = new ModelTest(args.length > 1 ? Long.parseLong(args[1]) : 20261118L);
        for (int k = 0; k < 60 * scale; k++) {
            test.texts(60);
        }
        for (int k = 0; k < 60 * scale; k++) {
            test.run(4, 3, 400);
            test.run(5, 4, 300);
            test.run(3, 8, 300);
        }
        for (int k = 0; k < 6 * scale; k++) {
            test.run(9, 4 + k % 5, 60);
            test.large(8 + k % 2);
            test.everyCut(4, 4);
            test.everyCut(3, 6);
        }
        System.out.println(test.wrong == 0 ? "the class and the model agree" : test.wrong + " runs differ");
        System.exit(test.wrong == 0 ? 0 : 1);
    }
}
