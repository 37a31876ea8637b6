/** Each call with all arguments that are too small, too large or just so, in each state, on the class and on the model: no call may throw. */
public final class WildTest {
    private static final int[] WILD = {Integer.MIN_VALUE, -1, 0, 1, 2, 3, 5, 6, 7, 8, 9, 31, 32, 64, 511, 512, 513, Integer.MAX_VALUE};
    private static final int[] FEWER = {Integer.MIN_VALUE, -1, 0, 1, 3, 6, 7, 9, 512, Integer.MAX_VALUE};
    /** An object is used for at most 512 calls. */
    private static final int CALLS_OF_ONE = 400;

    private int wrong = 0;
    private Pair pair = null;
    private int calls = 0;

    private void call(String text, int which, int[] n) {
        if (pair == null || calls >= CALLS_OF_ONE) {
            end();
            pair = new Pair();
            calls = 0;
            if (text != null) {
                pair.thing(text);
            }
        }
        calls++;
        pair.call(which, n[0], n[1], n[2], n[3]);
    }

    private void end() {
        wrong += pair != null && pair.isWrong() ? 1 : 0;
        pair = null;
    }

    private void everyCall(String text) {
        for (int which = 0; which < Pair.CALLS; which++) {
            int arguments = ModelTest.KINDS[which].length();
            int[] values = arguments > 3 ? FEWER : WILD;
            int number = (int) Math.pow(values.length, arguments);
            for (int k = 0; k < number; k++) {
                int[] n = new int[4];
                for (int i = 0, rest = k; i < arguments; i++, rest /= values.length) {
                    n[i] = values[rest % values.length];
                }
                call(text, which, n);
            }
            end();
        }
    }

    public static void main(String[] args) {
        WildTest test = new WildTest();
        String[] texts = {null, "", Told.ONE_CELL, Told.TOWER, Told.JOINED, CutBoundaries.CAGE_AND_FREE, Told.parts(9)};
        for (String text : texts) {
            test.everyCall(text);
        }
        System.out.println(test.wrong == 0 ? "the class and the model agree on wild arguments" : test.wrong + " objects differ");
        System.exit(test.wrong == 0 ? 0 : 1);
    }
}
