import java.util.Arrays;
import java.util.regex.Pattern;
import java.util.stream.Collectors;

/** Things told in texts, and how a text comes into an object: what the tests by hand share. */
final class Told {
    /** Three cells on top of one another. */
    static final String TOWER = "part a box 0 0 0 1 1 1; part b box 0 0 1 1 1 1; part c box 0 0 2 1 1 1;";
    /** On their way east a is barred by b, b by c, c by a. */
    static final String WHEEL = "part a box 0 0 0 1 1 1 box 1 2 0 1 1 1; part b box 1 0 0 1 1 1 box 0 1 0 1 1 1;"
            + " part c box 1 1 0 1 1 1 box 0 2 0 1 1 1;";
    /** A cell with another part on all six sides of it. */
    static final String CAGE = "part a box 3 3 3 1 1 1; part b box 4 3 3 1 1 1 box 2 3 3 1 1 1 box 3 4 3 1 1 1"
            + " box 3 2 3 1 1 1 box 3 3 4 1 1 1 box 3 3 2 1 1 1;";
    /** Two cells side by side with a joint on a that is reached from above, and c over it. */
    static final String JOINED = "part a box 0 0 0 1 1 1; part b box 1 0 0 1 1 1; part c box 0 0 3 1 1 1;"
            + " joint a b 0 0 0 up; joint b c 7 7 7 down;";
    /** a and b have a joint that c covers, c and d one that a covers: the pairs must go apart first. */
    static final String CORNERS = "part a box 0 0 0 1 1 1; part b box 1 0 0 1 1 1; part c box 4 4 4 1 1 1; part d box 5 4 4 1 1 1;"
            + " joint a b 4 4 0 up; joint c d 0 0 4 down;";
    /** c between two shells: it can't leave both of them, so of the live heaps without it there are a and b alone. */
    static final String SHELLS = "part a box 3 3 4 1 1 1 box 4 3 3 1 1 1 box 3 4 3 1 1 1; part b box 3 3 2 1 1 1 box 2 3 3 1 1 1 box 3 2 3 1 1 1;"
            + " part c box 3 3 3 1 1 1;";
    /** Joints are covered so that first e leaves, then d, then c, and a and b part last. */
    static final String DEEP = "part a box 0 0 0 1 1 1; part b box 2 0 0 1 1 1; part c box 4 4 4 1 1 1; part d box 6 6 6 1 1 1; part e box 1 6 6 1 1 1;"
            + " joint a b 4 4 3 up; joint a c 6 6 5 up; joint b c 6 6 5 up; joint d a 1 6 5 up; joint d b 1 6 5 up; joint d c 1 6 5 up;";
    static final String ONE_CELL = "part a box 0 0 0 1 1 1;";
    static final String TWO_CELLS = "part a box 0 0 0 1 1 1; part b box 1 0 0 1 1 1; ";

    private Told() {
    }

    /** A text's bytes, twenty in each row of five numbers; the last row is filled up with blanks. */
    static int[][] numbers(String text) {
        int[][] rows = new int[(text.length() + 19) / 20][5];
        for (int at = 0; at < 20 * rows.length; at++) {
            int k = at % 20 / 4;
            rows[at / 20][k] = rows[at / 20][k] << 8 | (at < text.length() ? text.charAt(at) & 255 : 32);
        }
        return rows;
    }

    /** The tape has this text alone. */
    static void tell(HandsOrder x, String text) {
        x.end(0);
        for (int[] n : numbers(text)) {
            x.feed(n[0], n[1], n[2], n[3], n[4]);
        }
        x.end(text.length());
    }

    static int thing(HandsOrder x, String text) {
        tell(x, text);
        return x.thing();
    }

    static int record(HandsOrder x, String text) {
        tell(x, text);
        return x.record();
    }

    /** A new object with a thing that has no fault. */
    static HandsOrder of(String text) {
        HandsOrder x = new HandsOrder();
        if (thing(x, text) < 0) {
            throw new IllegalStateException("fault " + x.fault(0) + " at " + x.fault(1) + " in " + text);
        }
        return x;
    }

    /** One cell each, side by side in rows of eight. */
    static String parts(int n) {
        StringBuilder text = new StringBuilder();
        for (int p = 0; p < n; p++) {
            text.append("part ").append((char) ('a' + p)).append(" box ").append(p % 8).append(' ').append(p / 8).append(" 0 1 1 1;");
        }
        return text.toString();
    }

    static String boxes(int n) {
        return " box 0 0 0 1 1 1 ".repeat(n);
    }

    static String joints(int n) {
        return "joint a b 0 0 0 up;".repeat(n);
    }

    /** Part k stands on line k with the next one east of it, the last with the first. */
    static String wheel(int n) {
        StringBuilder text = new StringBuilder();
        for (int p = 0; p < n; p++) {
            int before = (p + n - 1) % n;
            text.append("part ").append((char) ('a' + p)).append(" box 0 ").append(p % 8).append(' ').append(p / 8).append(" 1 1 1");
            text.append(" box 1 ").append(before % 8).append(' ').append(before / 8).append(" 1 1 1;");
        }
        return text.toString();
    }

    /** A peg in a tube that is open at both ends along an axis. */
    static String tube(int axis) {
        StringBuilder text = new StringBuilder("part a box 3 3 3 1 1 1; part b");
        for (int way = 0; way < 6; way++) {
            if (way / 2 != axis) {
                text.append(" box ").append(away(3, 3, 3, way, 1)).append(" 1 1 1");
            }
        }
        return text.append(";").toString();
    }

    /** A part of one cell. */
    static String part(String name, String spot) {
        return "part " + name + " box " + spot + " 1 1 1;";
    }

    static String spot(int... numbers) {
        return Arrays.stream(numbers).mapToObj(Integer::toString).collect(Collectors.joining(" "));
    }

    /** The cell that is so far from another one on a way, as it stands in a text. */
    static String away(int x, int y, int z, int way, int far) {
        int[] at = {x, y, z};
        at[way / 2] += way % 2 == 0 ? far : -far;
        return spot(at);
    }

    /** The same boxes with x, y, z told in another order, and from 3 on also with east for west and so on. */
    static String turned(String text, int k) {
        return Pattern.compile("box (\\d) (\\d) (\\d) (\\d) (\\d) (\\d)").matcher(text).replaceAll(m -> {
            StringBuilder box = new StringBuilder("box");
            for (int i = 0; i < 6; i++) {
                int axis = (i + k) % 3;
                int least = Integer.parseInt(m.group(1 + axis));
                int length = Integer.parseInt(m.group(4 + axis));
                box.append(' ').append(i > 2 ? length : k < 3 ? least : 8 - least - length);
            }
            return box.toString();
        });
    }

    /** What a way becomes if the boxes are turned so. */
    static int turnedWay(int way, int k) {
        int axis = (way / 2 + 3 - k % 3) % 3;
        return 2 * axis + (k < 3 ? way % 2 : 1 - way % 2);
    }

    static String shifted(String text, int dx, int dy, int dz) {
        return Pattern.compile("box (\\d) (\\d) (\\d)").matcher(text).replaceAll(m -> "box " + (Integer.parseInt(m.group(1)) + dx) + " "
                + (Integer.parseInt(m.group(2)) + dy) + " " + (Integer.parseInt(m.group(3)) + dz));
    }
}
