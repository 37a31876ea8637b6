import java.util.ArrayList;
import java.util.List;
import java.util.function.ToLongFunction;

/** Questions of each kind that change nothing, so that two objects can be compared. */
final class Answers {
    record Question(String call, ToLongFunction<HandsOrder> asked) { }

    private Answers() {
    }

    /** Some sixty, for a thing with so many parts. */
    static List<Question> questions(int parts) {
        int whole = (1 << parts) - 1;
        int half = whole / 3 | 1;
        List<Question> all = new ArrayList<>();
        for (int k = 0; k < 8; k++) {
            int n = k;
            all.add(new Question("heap " + whole + " " + n, x -> x.heap(whole, n)));
            all.add(new Question("heap 3 " + n, x -> x.heap(3, n)));
            all.add(new Question("cell " + n + " 0 0", x -> x.cell(n, 0, 0)));
            all.add(new Question("bars 0 " + n, x -> x.bars(0, n)));
            all.add(new Question("view " + n, x -> x.view(whole, half, n)));
        }
        for (int k = 0; k < 3; k++) {
            int n = k;
            all.add(new Question("net " + n, x -> x.net(n)));
            all.add(new Question("plan 0 " + n, x -> x.plan(0, n)));
            all.add(new Question("safe " + n, x -> x.safe(n)));
            all.add(new Question("down " + n, x -> x.down(n)));
            all.add(new Question("missing " + n, x -> x.missing(n)));
            all.add(new Question("where " + n, x -> x.where(n)));
            all.add(new Question("mirrored 0 " + n, x -> x.mirrored(0, n)));
            all.add(new Question("time " + n, x -> x.time(whole, n)));
            all.add(new Question("inOne 0 1 " + n, x -> x.inOne(0, 1, n)));
        }
        for (int k = 0; k < 2; k++) {
            int n = k;
            all.add(new Question("cut " + n, x -> x.cut(whole, half, n)));
            all.add(new Question("safeCut " + n, x -> x.safeCut(whole, half, n)));
            all.add(new Question("minutes " + n, x -> x.minutes(whole, half, n)));
            all.add(new Question("ring " + n, x -> x.ring(whole, 0, n)));
            all.add(new Question("pull " + n, x -> x.pull(whole, half, 0, n)));
            all.add(new Question("like 0 1 " + n, x -> x.like(0, 1, n)));
        }
        all.add(new Question("moves", x -> x.moves(whole, half)));
        all.add(new Question("holding", x -> x.holding(whole)));
        all.add(new Question("oneByOne", x -> x.oneByOne(whole)));
        all.add(new Question("judged 0", x -> x.judged(0)));
        return all;
    }
}
