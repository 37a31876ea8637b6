import java.util.ArrayList;
import java.util.List;

/** The class and the model side by side: each call goes to both, and a difference is told with all calls before it. */
final class Pair {
    private final HandsOrder x = new HandsOrder();
    private final Model m = new Model();
    private final List<String> calls = new ArrayList<>();
    private boolean wrong = false;

    boolean isWrong() {
        return wrong;
    }

    private long both(String call, long got, long due) {
        calls.add(call);
        if (got != due && !wrong) {
            wrong = true;
            System.out.println(String.join("; ", calls) + " answered " + got + ", the model says " + due);
        }
        return got;
    }

    private static long of(boolean b) {
        return b ? 1 : 0;
    }

    /** Feeds a text's bytes and cuts off what fills up the last twenty. */
    void tell(String text) {
        x.end(0);
        m.end(0);
        for (int[] n : Told.numbers(text)) {
            both("feed", x.feed(n[0], n[1], n[2], n[3], n[4]), m.feed(n[0], n[1], n[2], n[3], n[4]));
        }
        both("end '" + text + "'", of(x.end(text.length())), of(m.end(text.length())));
    }

    long thing(String text) {
        tell(text);
        long answer = both("thing", x.thing(), m.thing());
        faults();
        return answer;
    }

    long record(String text) {
        tell(text);
        long answer = both("record", x.record(), m.record());
        faults();
        for (int what = -1; what < 5; what++) {
            both("judged " + what, x.judged(what), m.judged(what));
        }
        return answer;
    }

    private void faults() {
        for (int what = -1; what < 3; what++) {
            both("fault " + what, x.fault(what), m.fault(what));
        }
    }

    /** The call with that number, its arguments taken from a, b, c, d as they come. */
    void call(int which, int a, int b, int c, int d) {
        boolean is = (d & 1) != 0;
        String args = " " + a + " " + b + " " + c + " " + d;
        switch (which) {
            case 0 -> both("cell" + args, x.cell(a, b, c), m.cell(a, b, c));
            case 1 -> both("bars" + args, x.bars(a, b), m.bars(a, b));
            case 2 -> both("price" + args, of(x.price(a, b)), of(m.price(a, b)));
            case 3 -> both("bent" + args, of(x.bent(a, is)), of(m.bent(a, is)));
            case 4 -> both("cut" + args, x.cut(a, b, c), m.cut(a, b, c));
            case 5 -> both("heap" + args, x.heap(a, b), m.heap(a, b));
            case 6 -> both("net" + args, x.net(a), m.net(a));
            case 7 -> both("plan" + args, x.plan(a, b), m.plan(a, b));
            case 8 -> both("ring" + args, x.ring(a, b, c), m.ring(a, b, c));
            case 9 -> both("missing" + args, x.missing(a), m.missing(a));
            case 10 -> both("down" + args, x.down(a), m.down(a));
            case 11 -> both("inOne" + args, x.inOne(a, b, c), m.inOne(a, b, c));
            case 12 -> both("view" + args, x.view(a, b, c), m.view(a, b, c));
            case 13 -> both("moves" + args, x.moves(a, b), m.moves(a, b));
            case 14 -> both("apart" + args, x.apart(a, b), m.apart(a, b));
            case 15 -> both("where" + args, x.where(a), m.where(a));
            case 16 -> both("together" + args, x.together(), m.together());
            case 17 -> both("swollen" + args, of(x.swollen(a, b, is)), of(m.swollen(a, b, is)));
            case 18 -> both("safe" + args, x.safe(a), m.safe(a));
            case 19 -> both("safeCut" + args, x.safeCut(a, b, c), m.safeCut(a, b, c));
            case 20 -> both("holding" + args, x.holding(a), m.holding(a));
            case 21 -> both("oneByOne" + args, x.oneByOne(a), m.oneByOne(a));
            case 22 -> both("judged" + args, x.judged(a), m.judged(a));
            case 23 -> both("pull" + args, x.pull(a, b, c, d), m.pull(a, b, c, d));
            case 24 -> both("like" + args, x.like(a, b, c), m.like(a, b, c));
            case 25 -> both("mirrored" + args, x.mirrored(a, b), m.mirrored(a, b));
            case 26 -> both("minutes" + args, x.minutes(a, b, c), m.minutes(a, b, c));
            case 27 -> both("time" + args, x.time(a, b), m.time(a, b));
            case 28 -> both("end" + args, of(x.end(a)), of(m.end(a)));
            default -> both("feed" + args, x.feed(a, b, c, d, a), m.feed(a, b, c, d, a));
        }
    }

    static final int CALLS = 30;
}
