import java.util.Arrays;

/** Things of solid parts that are put together by taking them apart in thought. */
public final class HandsOrder {
    public static final int NONE = -1;

    private static final int EDGE = 8;
    private static final int LAST = EDGE - 1;
    private static final int LINES = EDGE * EDGE;
    private static final int AXES = 3;
    private static final int WAYS = 6;
    private static final int HAND = 6;
    private static final int THE_SIDE = 6;
    private static final int DEAREST = 99;
    private static final int FARTHEST = 16;
    private static final int MOST_BYTES = 800;
    private static final int MOST_PARTS = 9;
    private static final int MOST_JOINTS = 8;
    private static final int MOST_BOXES = 24;
    private static final int MOST_STEPS = 16;
    private static final int SETS = 1 << MOST_PARTS;

    private final Tape tape = new Tape();
    private final Shape shape = new Shape();
    private final ThingText thingText = new ThingText(tape);
    private final RecordText recordText = new RecordText(tape, shape);
    private final Ways ways = new Ways(shape);
    private final Ways swollenWays = new Ways(shape);
    private final Hands hands = new Hands(shape);
    private final int[] prices = {1, 1, 1, 1, 1, 1, 0};
    private final Orders orders = new Orders(shape, hands, prices);
    private final Orders otherOrders = new Orders(shape, hands, prices);
    private final Space space = new Space(shape);
    private final Net theNet = new Net(shape, ways, space);
    private final Parted parted = new Parted();

    public HandsOrder() {
    }

    public int feed(int a, int b, int c, int d, int e) {
        if (!tape.hasRoom(20)) {
            return NONE;
        }
        tape.addNumber(a);
        tape.addNumber(b);
        tape.addNumber(c);
        tape.addNumber(d);
        tape.addNumber(e);
        return tape.length;
    }

    public boolean end(int n) {
        return tape.shorten(n);
    }

    public int thing() {
        boolean taken = thingText.readAll();
        tape.shorten(0);
        if (!taken) {
            return NONE;
        }
        shape.become(thingText.draft);
        parted.gather(shape.parts);
        recordText.forget();
        hands.stale();
        ways.measure(false);
        swollenWays.copy(ways);
        forgetOrders();
        return shape.parts;
    }

    public int fault(int what) {
        if (what == 0) {
            return tape.fault;
        }
        return what == 1 ? tape.faultPlace : NONE;
    }

    public int cell(int x, int y, int z) {
        return shape.partAt(x, y, z);
    }

    public int bars(int p, int way) {
        return shape.isPart(p) && isWay(way) ? ways.barring(1 << p, way) : NONE;
    }

    public boolean price(int way, int v) {
        if (way < 0 || way > HAND || v < 0 || v > DEAREST) {
            return false;
        }
        prices[way] = v;
        orders.fresh = false;
        return true;
    }

    public boolean bent(int p, boolean is) {
        if (!shape.isPart(p) || shape.isBent(p) == is) {
            return false;
        }
        shape.bent ^= 1 << p;
        ways.combine();
        swollenWays.combine();
        forgetOrders();
        return true;
    }

    public int cut(int heap, int half, int way) {
        if (!shape.isHalf(heap, half) || !isWay(way)) {
            return NONE;
        }
        return ways.isGood(heap, half, way) ? 1 : 0;
    }

    public long heap(int set, int what) {
        if (!shape.isHeap(set)) {
            return NONE;
        }
        if (what == 5 || what == 6) {
            hands.refresh();
            return what == 5 ? hands.need[set] : hands.tipping(set);
        }
        if (what == 2 || what == 3) {
            freshOrders();
            return what == 2 ? orders.count[set] : orders.least[set];
        }
        freshOrders();
        theNet.refresh(orders);
        switch (what) {
            case 0: return theNet.inNet(set) ? 1 : 0;
            case 1: return theNet.partings[set];
            case 4: return theNet.rounds[set];
            case 7: return theNet.isLive(set) ? 1 : 0;
            default: return NONE;
        }
    }

    public int net(int what) {
        switch (what) {
            case 0:
            case 1:
            case 2:
                freshOrders();
                theNet.refresh(orders);
                return theNet.howMany(what);
            case 3: return shape.parts;
            case 4: return shape.joints;
            case 5: return shape.whole();
            default: return NONE;
        }
    }

    public int plan(int k, int what) {
        freshOrders();
        int heap = orders.planHeap(k);
        if (heap == NONE) {
            return NONE;
        }
        switch (what) {
            case 0: return heap;
            case 1: return orders.bestHalf[heap];
            case 2: return orders.bestWay[heap];
            default: return NONE;
        }
    }

    public int ring(int heap, int way, int what) {
        if (!shape.isHeap(heap) || !isWay(way) || what < 0 || what > MOST_PARTS) {
            return NONE;
        }
        return ways.findRing(heap, way, what);
    }

    public int missing(int p) {
        if (!shape.isPart(p)) {
            return NONE;
        }
        freshOrders();
        theNet.refresh(orders);
        return theNet.largestLiveWithout(p);
    }

    public int down(int p) {
        return shape.isPart(p) ? theNet.cutsDownTo(p) : NONE;
    }

    public long inOne(int p, int q, int what) {
        if (!shape.isPart(p) || !shape.isPart(q) || p == q || what < 0 || what > 1) {
            return NONE;
        }
        freshPrices();
        otherOrders.fill(ways, 1 << p | 1 << q);
        return otherOrders.ofWhole(what);
    }

    public int view(int heap, int half, int way) {
        if (!shape.isHalf(heap, half) || way < 0 || way > THE_SIDE) {
            return NONE;
        }
        space.load(heap, half);
        return way == THE_SIDE ? space.bestSide() : space.linesSeen(way);
    }

    public int moves(int heap, int half) {
        if (!shape.isHalf(heap, half)) {
            return NONE;
        }
        space.load(heap, half);
        return space.fewestGoings();
    }

    public int apart(int half, int way) {
        int heap = parted.heapAround(half);
        if (heap == NONE || !isWay(way) || !ways.isGood(heap, half, way)) {
            return NONE;
        }
        parted.divide(heap, half);
        return parted.cuts + 1;
    }

    public int where(int p) {
        return shape.isPart(p) ? parted.heapOf[p] : NONE;
    }

    public int together() {
        int cuts = parted.cuts;
        parted.gather(shape.parts);
        return cuts;
    }

    public boolean swollen(int p, int way, boolean is) {
        if (!shape.isPart(p) || !isWay(way) || shape.isSwollen(p, way) == is) {
            return false;
        }
        shape.swollen[way] ^= 1 << p;
        swollenWays.measure(true);
        return true;
    }

    public long safe(int what) {
        if (what == 0 || what == 1) {
            freshPrices();
            otherOrders.fill(swollenWays, 0);
            return otherOrders.ofWhole(what);
        }
        freshOrders();
        return what == 2 ? firstUnsafe() : NONE;
    }

    public int safeCut(int heap, int half, int way) {
        if (!shape.isHalf(heap, half) || !isWay(way)) {
            return NONE;
        }
        return isSafe(heap, half, way) ? 1 : 0;
    }

    public int holding(int heap) {
        if (!shape.isHeap(heap)) {
            return NONE;
        }
        hands.refresh();
        return hands.held[heap];
    }

    public long oneByOne(int heap) {
        return shape.isHeap(heap) ? theNet.lonelyOrders(heap) : NONE;
    }

    public int record() {
        boolean taken = recordText.readAll();
        tape.shorten(0);
        if (!taken) {
            return NONE;
        }
        recordText.judge(ways);
        return recordText.right;
    }

    public int judged(int what) {
        return recordText.answer(what);
    }

    public int pull(int heap, int half, int way, int side) {
        if (!shape.isHalf(heap, half) || !isWay(way) || !isWay(side)) {
            return NONE;
        }
        space.load(heap, half);
        return space.leastPull(way, side);
    }

    public int like(int p, int q, int what) {
        if (!shape.isPart(p) || !shape.isPart(q) || what < 0 || what > AXES) {
            return NONE;
        }
        return space.areLike(p, q, what - 1) ? 1 : 0;
    }

    public int mirrored(int p, int axis) {
        if (!shape.isPart(p) || axis < 0 || axis >= AXES) {
            return NONE;
        }
        return space.goesInMirrored(p, axis) ? 1 : 0;
    }

    public int minutes(int heap, int half, int way) {
        if (!shape.isHalf(heap, half) || !isWay(way) || !ways.isGood(heap, half, way)) {
            return NONE;
        }
        space.load(heap, half);
        return space.cellsTillOut(way);
    }

    public int time(int heap, int what) {
        if (!shape.isHeap(heap) || what < 0 || what > 1) {
            return NONE;
        }
        theNet.freshTimes();
        return what == 0 ? theNet.alone[heap] : theNet.byTwo[heap];
    }

    private void forgetOrders() {
        orders.fresh = false;
        theNet.stale();
    }

    private void freshOrders() {
        if (!orders.fresh) {
            freshPrices();
            orders.fill(ways, 0);
        }
    }

    /** Hands that cost nothing need not be counted. */
    private void freshPrices() {
        if (prices[HAND] > 0) {
            hands.refresh();
        }
    }

    private boolean isSafe(int heap, int half, int way) {
        return ways.isGood(heap, half, way) && swollenWays.isGood(heap, half, way);
    }

    private int firstUnsafe() {
        for (int k = 0; k < MOST_PARTS; k++) {
            int heap = orders.planHeap(k);
            if (heap == NONE) {
                return NONE;
            }
            if (!isSafe(heap, orders.bestHalf[heap], orders.bestWay[heap])) {
                return k;
            }
        }
        return NONE;
    }

    private static boolean isWay(int way) {
        return way >= 0 && way < WAYS;
    }

    private static int axisOf(int way) {
        return way >> 1;
    }

    /** 1 on the ways on which a number of the cell grows, else -1. */
    private static int signOf(int way) {
        return (way & 1) == 0 ? 1 : -1;
    }

    private static boolean isOne(int heap) {
        return (heap & heap - 1) == 0;
    }

    private static boolean within(int set, int of) {
        return (set & ~of) == 0;
    }

    /** How many halves a heap has. */
    private static int halvesOf(int heap) {
        return (1 << Integer.bitCount(heap)) - 2;
    }

    /** The next greater half (from 0 on): counts on in the bits of the heap alone. */
    private static int nextHalf(int heap, int half) {
        return half - heap & heap;
    }

    /** The least part of a set, NONE of an empty one. */
    private static int leastOf(int set) {
        for (int p = 0; p < MOST_PARTS; p++) {
            if ((set >> p & 1) != 0) {
                return p;
            }
        }
        return NONE;
    }

    /** The bytes that were fed, read token by token; it also keeps the fault of the latest reading. */
    private static final class Tape {
        static final int END = 0;
        static final int WORD = 1;
        static final int NUMBER = 2;
        static final int SEMICOLON = 3;
        static final int WRONG = 4;

        private static final int MOST_LETTERS = 6;
        private static final int MOST_DIGITS = 3;
        private static final int BLANK = 32;
        private static final int NEW_LINE = 10;

        private final byte[] bytes = new byte[MOST_BYTES];
        int length = 0;
        int fault = 0;
        int faultPlace = NONE;
        int kind = END;
        int place = 0;
        /** A number's value, or a word's letters as a number to the base of 27. */
        int value = 0;
        private int next = 0;

        boolean hasRoom(int more) {
            return length + more <= MOST_BYTES;
        }

        void addNumber(int number) {
            for (int shift = 24; shift >= 0; shift -= 8) {
                if (length < MOST_BYTES) {
                    bytes[length] = (byte) (number >> shift);
                    length++;
                }
            }
        }

        boolean shorten(int n) {
            if (n < 0 || n > length) {
                return false;
            }
            length = n;
            return true;
        }

        void rewind() {
            next = 0;
            fault = 0;
            faultPlace = NONE;
            advance();
        }

        /** Always false, so that a reader can end with it. */
        boolean refuse(int which, int where) {
            fault = which;
            faultPlace = where;
            return false;
        }

        boolean refuseToken(int which) {
            return refuse(which, place);
        }

        void advance() {
            while (next < length && isBlank(bytes[next])) {
                next++;
            }
            place = next;
            if (next >= length) {
                kind = END;
            } else if (isLetter(bytes[next])) {
                takeWord();
            } else if (isDigit(bytes[next])) {
                takeNumber();
            } else {
                kind = bytes[next] == ';' ? SEMICOLON : WRONG;
                next++;
            }
        }

        boolean says(String word) {
            if (kind != WORD || next - place != word.length()) {
                return false;
            }
            for (int k = 0; k < word.length() && place + k < length; k++) {
                if (bytes[place + k] != word.charAt(k)) {
                    return false;
                }
            }
            return true;
        }

        /** The way that the token names, or NONE. */
        int wayHere() {
            if (says("east")) {
                return 0;
            }
            if (says("west")) {
                return 1;
            }
            if (says("north")) {
                return 2;
            }
            if (says("south")) {
                return 3;
            }
            if (says("up")) {
                return 4;
            }
            return says("down") ? 5 : NONE;
        }

        private void takeWord() {
            value = 0;
            while (next < length && isLetter(bytes[next])) {
                value = value * 27 + (bytes[next] - 'a' + 1);
                next++;
            }
            kind = next - place <= MOST_LETTERS ? WORD : WRONG;
        }

        private void takeNumber() {
            value = 0;
            while (next < length && isDigit(bytes[next])) {
                value = value * 10 + (bytes[next] - '0');
                next++;
            }
            kind = next - place <= MOST_DIGITS ? NUMBER : WRONG;
        }

        private static boolean isBlank(int sign) {
            return sign == BLANK || sign == NEW_LINE;
        }

        private static boolean isLetter(int sign) {
            return sign >= 'a' && sign <= 'z';
        }

        private static boolean isDigit(int sign) {
            return sign >= '0' && sign <= '9';
        }
    }

    /** A set of cells: eight planes of 64 bits, so that a whole set is moved or compared at once. */
    private static final class Solid {
        private static final long FIRST_COLUMN = 0x0101010101010101L;
        private static final long LAST_COLUMN = FIRST_COLUMN << LAST;

        private final long[] planes = new long[EDGE];

        void wipe() {
            for (int z = 0; z < EDGE; z++) {
                planes[z] = 0;
            }
        }

        void copy(Solid other) {
            for (int z = 0; z < EDGE; z++) {
                planes[z] = other.planes[z];
            }
        }

        void put(int x, int y, int z) {
            if (isCell(x, y, z)) {
                planes[z] |= 1L << EDGE * y + x;
            }
        }

        boolean has(int x, int y, int z) {
            return isCell(x, y, z) && (planes[z] >>> EDGE * y + x & 1) != 0;
        }

        private static boolean isCell(int x, int y, int z) {
            return x >= 0 && x < EDGE && y >= 0 && y < EDGE && z >= 0 && z < EDGE;
        }

        void join(Solid other) {
            for (int z = 0; z < EDGE; z++) {
                planes[z] |= other.planes[z];
            }
        }

        void drop(Solid other) {
            for (int z = 0; z < EDGE; z++) {
                planes[z] &= ~other.planes[z];
            }
        }

        boolean meets(Solid other) {
            for (int z = 0; z < EDGE; z++) {
                if ((planes[z] & other.planes[z]) != 0) {
                    return true;
                }
            }
            return false;
        }

        boolean isSame(Solid other) {
            for (int z = 0; z < EDGE; z++) {
                if (planes[z] != other.planes[z]) {
                    return false;
                }
            }
            return true;
        }

        /** By one cell; what comes beyond the edge is lost. */
        void step(int way) {
            if (way == 4) {
                for (int z = LAST; z > 0; z--) {
                    planes[z] = planes[z - 1];
                }
                planes[0] = 0;
            } else if (way == 5) {
                for (int z = 0; z < LAST; z++) {
                    planes[z] = planes[z + 1];
                }
                planes[LAST] = 0;
            } else {
                for (int z = 0; z < EDGE; z++) {
                    planes[z] = stepPlane(planes[z], way);
                }
            }
        }

        private static long stepPlane(long plane, int way) {
            switch (way) {
                case 0: return (plane & ~LAST_COLUMN) << 1;
                case 1: return (plane & ~FIRST_COLUMN) >>> 1;
                case 2: return plane << EDGE;
                default: return plane >>> EDGE;
            }
        }

        /** Whether it would meet another one if it were moved so far. */
        boolean meetsMoved(Solid other, int dx, int dy, int dz) {
            if (Math.abs(dx) > LAST || Math.abs(dy) > LAST || Math.abs(dz) > LAST) {
                return false;
            }
            long staying = columns(Math.max(0, -dx), Math.min(LAST, LAST - dx));
            int from = Math.max(0, -dz);
            int to = Math.min(LAST, LAST - dz);
            for (int z = from; z <= to; z++) {
                if ((movePlane(planes[z] & staying, dx, dy) & other.planes[z + dz]) != 0) {
                    return true;
                }
            }
            return false;
        }

        private static long movePlane(long plane, int dx, int dy) {
            long rows = dy >= 0 ? plane << EDGE * dy : plane >>> -EDGE * dy;
            return dx >= 0 ? rows << dx : rows >>> -dx;
        }

        private static long columns(int from, int to) {
            long all = 0;
            for (int x = from; x <= to; x++) {
                all |= FIRST_COLUMN << x;
            }
            return all;
        }

        /** Which numbers its cells have at an axis, as bits. */
        int shadow(int axis) {
            int bits = 0;
            long flat = 0;
            for (int z = 0; z < EDGE; z++) {
                flat |= planes[z];
                bits |= axis == 2 && planes[z] != 0 ? 1 << z : 0;
            }
            for (int c = 0; c < EDGE && axis != 2; c++) {
                long strip = axis == 0 ? FIRST_COLUMN << c : 255L << EDGE * c;
                bits |= (flat & strip) != 0 ? 1 << c : 0;
            }
            return bits;
        }

        /** Drops all cells whose number at an axis is not among the bits. */
        void keep(int axis, int bits) {
            long strips = 0;
            for (int c = 0; c < EDGE; c++) {
                boolean in = (bits >> c & 1) != 0;
                if (axis == 2) {
                    planes[c] = in ? planes[c] : 0;
                } else if (in) {
                    strips |= axis == 0 ? FIRST_COLUMN << c : 255L << EDGE * c;
                }
            }
            for (int z = 0; z < EDGE && axis != 2; z++) {
                planes[z] &= strips;
            }
        }

        int count() {
            int cells = 0;
            for (int z = 0; z < EDGE; z++) {
                cells += Long.bitCount(planes[z]);
            }
            return cells;
        }

        /** The sum of 2 c + 1 over its cells, c being their number at axis 0 or 1. */
        int doubledSum(int axis) {
            int sum = 0;
            for (int c = 0; c < EDGE; c++) {
                long strip = axis == 0 ? FIRST_COLUMN << c : 255L << EDGE * c;
                int cells = 0;
                for (int z = 0; z < EDGE; z++) {
                    cells += Long.bitCount(planes[z] & strip);
                }
                sum += cells * (2 * c + 1);
            }
            return sum;
        }

        void becomeMirror(Solid other, int axis) {
            wipe();
            for (int z = 0; z < EDGE; z++) {
                for (int y = 0; y < EDGE; y++) {
                    for (int x = 0; x < EDGE; x++) {
                        if (other.has(x, y, z)) {
                            put(axis == 0 ? LAST - x : x, axis == 1 ? LAST - y : y, axis == 2 ? LAST - z : z);
                        }
                    }
                }
            }
        }

        /** Moves it to the least corner, where two that differ by a move alone are the same. */
        void settle() {
            for (int axis = 0; axis < AXES; axis++) {
                int far = lowest(shadow(axis));
                for (int k = 0; k < far; k++) {
                    step(2 * axis + 1);
                }
            }
        }

        static int lowest(int bits) {
            for (int c = 0; c < EDGE; c++) {
                if ((bits >> c & 1) != 0) {
                    return c;
                }
            }
            return 0;
        }

        static int highest(int bits) {
            for (int c = LAST; c >= 0; c--) {
                if ((bits >> c & 1) != 0) {
                    return c;
                }
            }
            return 0;
        }
    }

    /** A thing: its parts and joints, and what has been told of its parts. */
    private static final class Shape {
        int parts = 0;
        int joints = 0;
        int bent = 0;
        /** Of each way the parts that are swollen there. */
        final int[] swollen = new int[WAYS];
        final Solid all = new Solid();
        private final Solid[] bodies = new Solid[MOST_PARTS];
        private final int[] names = new int[MOST_PARTS];
        /** Of each joint its two parts. */
        private final int[] pairs = new int[MOST_JOINTS];
        /** Of each joint the parts that stand on the way from which it is reached. */
        private final int[] covers = new int[MOST_JOINTS];
        /** Of each joint where it is: x, y, z, way, as digits to the base of eight. */
        private final int[] spots = new int[MOST_JOINTS];

        Shape() {
            for (int p = 0; p < MOST_PARTS; p++) {
                bodies[p] = new Solid();
            }
        }

        int whole() {
            return (1 << parts) - 1;
        }

        boolean isPart(int p) {
            return p >= 0 && p < parts;
        }

        boolean isHeap(int set) {
            return set > 0 && set <= whole();
        }

        boolean isHalf(int heap, int half) {
            return isHeap(heap) && half > 0 && half < heap && within(half, heap);
        }

        boolean isBent(int p) {
            return (bent >> p & 1) != 0;
        }

        boolean isSwollen(int p, int way) {
            return (swollen[way] >> p & 1) != 0;
        }

        int partAt(int x, int y, int z) {
            for (int p = 0; p < parts; p++) {
                if (bodies[p].has(x, y, z)) {
                    return p;
                }
            }
            return NONE;
        }

        int partNamed(int name) {
            for (int p = 0; p < parts; p++) {
                if (names[p] == name) {
                    return p;
                }
            }
            return NONE;
        }

        void clear() {
            parts = 0;
            joints = 0;
            bent = 0;
            Arrays.fill(swollen, 0);
            all.wipe();
        }

        void addPart(int name) {
            if (parts < MOST_PARTS) {
                names[parts] = name;
                bodies[parts].wipe();
                parts++;
            }
        }

        void putCell(int p, int x, int y, int z) {
            if (isPart(p)) {
                bodies[p].put(x, y, z);
                all.put(x, y, z);
            }
        }

        void addJoint(int pair, int spot) {
            if (joints < MOST_JOINTS) {
                pairs[joints] = pair;
                spots[joints] = spot;
                joints++;
            }
        }

        /** Joints may be told ahead of the parts that cover them, so this waits for the text's end. */
        void findCovers() {
            for (int j = 0; j < joints; j++) {
                covers[j] = partsBeyond(spots[j]);
            }
        }

        private int partsBeyond(int spot) {
            int axis = axisOf(spot & 7);
            int found = 0;
            for (int k = 1; k < EDGE; k++) {
                int far = k * signOf(spot & 7);
                int x = (spot >> 9 & 7) + (axis == 0 ? far : 0);
                int y = (spot >> 6 & 7) + (axis == 1 ? far : 0);
                int z = (spot >> 3 & 7) + (axis == 2 ? far : 0);
                int p = partAt(x, y, z);
                found |= p == NONE ? 0 : 1 << p;
            }
            return found;
        }

        /** The least joint between a half and the rest of its heap that is not reached, or NONE. */
        int stuckJoint(int heap, int half) {
            for (int j = 0; j < joints; j++) {
                boolean between = (pairs[j] & half) != 0 && (pairs[j] & heap & ~half) != 0;
                if (between && (covers[j] & heap) != 0) {
                    return j;
                }
            }
            return NONE;
        }

        void collect(int set, Solid into) {
            into.wipe();
            for (int p = 0; p < parts; p++) {
                if ((set >> p & 1) != 0) {
                    into.join(bodies[p]);
                }
            }
        }

        void become(Shape other) {
            clear();
            for (int p = 0; p < other.parts; p++) {
                addPart(other.names[p]);
                bodies[p].copy(other.bodies[p]);
            }
            for (int j = 0; j < other.joints; j++) {
                addJoint(other.pairs[j], other.spots[j]);
            }
            all.copy(other.all);
            findCovers();
        }
    }

    /** Reads a thing's text into a draft, so that a fault leaves the thing as it was. */
    private static final class ThingText {
        final Shape draft = new Shape();
        private final Tape tape;
        private final Solid told = new Solid();
        private final int[] numbers = new int[2 * AXES];
        private int boxes = 0;

        ThingText(Tape tape) {
            this.tape = tape;
        }

        boolean readAll() {
            draft.clear();
            boxes = 0;
            tape.rewind();
            boolean fine = true;
            for (int k = 0; k <= MOST_BYTES && fine && tape.kind != Tape.END; k++) {
                if (tape.says("part")) {
                    fine = readPart();
                } else {
                    fine = tape.says("joint") ? readJoint() : tape.refuseToken(1);
                }
            }
            return fine;
        }

        private boolean readPart() {
            if (draft.parts >= MOST_PARTS) {
                return tape.refuseToken(3);
            }
            tape.advance();
            if (!isName()) {
                return tape.refuseToken(1);
            }
            if (draft.partNamed(tape.value) != NONE) {
                return tape.refuseToken(2);
            }
            told.copy(draft.all);
            draft.addPart(tape.value);
            tape.advance();
            if (!tape.says("box")) {
                return tape.refuseToken(1);
            }
            for (int k = 0; k <= MOST_BOXES && tape.says("box"); k++) {
                int place = tape.place;
                if (!readBox()) {
                    return false;
                }
                if (!fillBox()) {
                    return tape.refuse(5, place);
                }
            }
            return passSemicolon();
        }

        private boolean readBox() {
            if (boxes >= MOST_BOXES) {
                return tape.refuseToken(3);
            }
            boxes++;
            tape.advance();
            for (int k = 0; k < 2 * AXES; k++) {
                if (tape.kind != Tape.NUMBER) {
                    return tape.refuseToken(1);
                }
                if (!fits(k, tape.value)) {
                    return tape.refuseToken(4);
                }
                numbers[k] = tape.value;
                tape.advance();
            }
            return true;
        }

        /** Of the six numbers the last three are lengths, counted from the first three. */
        private boolean fits(int k, int n) {
            return k < AXES ? n < EDGE : n > 0 && numbers[k - AXES] + n <= EDGE;
        }

        /** False if a part told ahead has one of the cells. */
        private boolean fillBox() {
            for (int z = numbers[2]; z < numbers[2] + numbers[5]; z++) {
                for (int y = numbers[1]; y < numbers[1] + numbers[4]; y++) {
                    for (int x = numbers[0]; x < numbers[0] + numbers[3]; x++) {
                        if (told.has(x, y, z)) {
                            return false;
                        }
                        draft.putCell(draft.parts - 1, x, y, z);
                    }
                }
            }
            return true;
        }

        private boolean readJoint() {
            if (draft.joints >= MOST_JOINTS) {
                return tape.refuseToken(3);
            }
            int pair = 0;
            for (int k = 0; k < 2; k++) {
                tape.advance();
                if (!isName()) {
                    return tape.refuseToken(1);
                }
                int p = draft.partNamed(tape.value);
                if (p == NONE || pair == 1 << p) {
                    return tape.refuseToken(2);
                }
                pair |= 1 << p;
            }
            return readSpot(pair) && passSemicolon();
        }

        private boolean readSpot(int pair) {
            int spot = 0;
            for (int k = 0; k < AXES; k++) {
                tape.advance();
                if (tape.kind != Tape.NUMBER) {
                    return tape.refuseToken(1);
                }
                if (tape.value >= EDGE) {
                    return tape.refuseToken(4);
                }
                spot = EDGE * spot + tape.value;
            }
            tape.advance();
            int way = tape.wayHere();
            if (way == NONE) {
                return tape.refuseToken(1);
            }
            draft.addJoint(pair, EDGE * spot + way);
            tape.advance();
            return true;
        }

        private boolean passSemicolon() {
            if (tape.kind != Tape.SEMICOLON) {
                return tape.refuseToken(1);
            }
            tape.advance();
            return true;
        }

        private boolean isName() {
            boolean keyword = tape.says("part") || tape.says("box") || tape.says("joint");
            return tape.kind == Tape.WORD && !keyword && tape.wayHere() == NONE;
        }
    }

    /** Reads a record of steps and judges it on heaps of its own. */
    private static final class RecordText {
        private final Tape tape;
        private final Shape shape;
        private final Parted parted = new Parted();
        private final int[] halves = new int[MOST_STEPS];
        private final int[] stepWays = new int[MOST_STEPS];
        private int told = 0;
        /** NONE: no record has been judged. */
        private int steps = NONE;
        int right = 0;
        private int why = 0;
        private int culprit = NONE;

        RecordText(Tape tape, Shape shape) {
            this.tape = tape;
            this.shape = shape;
        }

        void forget() {
            steps = NONE;
        }

        boolean readAll() {
            told = 0;
            tape.rewind();
            for (int k = 0; k <= MOST_BYTES && tape.kind != Tape.END; k++) {
                if (!readStep()) {
                    return false;
                }
            }
            return true;
        }

        private boolean readStep() {
            int half = addName(0);
            if (half == NONE) {
                return false;
            }
            for (int k = 0; k <= MOST_PARTS && tape.says("and"); k++) {
                tape.advance();
                half = addName(half);
                if (half == NONE) {
                    return false;
                }
            }
            int way = tape.wayHere();
            if (way == NONE) {
                return tape.refuseToken(1);
            }
            tape.advance();
            if (tape.kind != Tape.SEMICOLON) {
                return tape.refuseToken(1);
            }
            tape.advance();
            addStep(half, way);
            return true;
        }

        private void addStep(int half, int way) {
            if (told < MOST_STEPS) {
                halves[told] = half;
                stepWays[told] = way;
                told++;
            }
        }

        /** The half with the part that is named here; NONE for a fault. */
        private int addName(int half) {
            if (tape.kind != Tape.WORD || tape.says("and") || tape.wayHere() != NONE) {
                tape.refuseToken(1);
                return NONE;
            }
            int p = shape.partNamed(tape.value);
            if (p == NONE || (half >> p & 1) != 0) {
                tape.refuseToken(2);
                return NONE;
            }
            if (half == 0 && told >= MOST_STEPS) {
                tape.refuseToken(3);
                return NONE;
            }
            tape.advance();
            return half | 1 << p;
        }

        void judge(Ways ways) {
            parted.gather(shape.parts);
            steps = told;
            right = 0;
            why = 0;
            culprit = NONE;
            for (int k = 0; k < told && why == 0; k++) {
                judgeStep(ways, halves[k], stepWays[k]);
            }
        }

        private void judgeStep(Ways ways, int half, int way) {
            int heap = parted.heapAround(half);
            if (heap == NONE) {
                why = 1;
                return;
            }
            int barring = ways.barring(half, way) & heap & ~half;
            int joint = shape.stuckJoint(heap, half);
            if (barring != 0) {
                why = 2;
                culprit = leastOf(barring);
            } else if (joint != NONE) {
                why = 3;
                culprit = joint;
            } else {
                parted.divide(heap, half);
                right++;
            }
        }

        int answer(int what) {
            if (steps == NONE) {
                return NONE;
            }
            switch (what) {
                case 0: return right;
                case 1: return steps;
                case 2: return why;
                case 3: return culprit;
                default: return NONE;
            }
        }
    }

    /** The heaps that there are while a thing is taken apart. */
    private static final class Parted {
        final int[] heapOf = new int[MOST_PARTS];
        int cuts = 0;

        void gather(int parts) {
            cuts = 0;
            for (int p = 0; p < MOST_PARTS; p++) {
                heapOf[p] = p < parts ? (1 << parts) - 1 : 0;
            }
        }

        /** The heap of which a set is some, not all; NONE if it is so of none. */
        int heapAround(int half) {
            if (half <= 0 || half >= SETS) {
                return NONE;
            }
            int p = leastOf(half);
            int heap = p == NONE ? 0 : heapOf[p];
            return half != heap && within(half, heap) ? heap : NONE;
        }

        void divide(int heap, int half) {
            cuts++;
            for (int p = 0; p < MOST_PARTS; p++) {
                if ((half >> p & 1) != 0) {
                    heapOf[p] = half;
                } else if ((heap >> p & 1) != 0) {
                    heapOf[p] = heap & ~half;
                }
            }
        }
    }

    /** Which parts bar which, and so which cuts are good; made of the parts as they are or as they are swollen. */
    private static final class Ways {
        private final Shape shape;
        private final Solid[] bodies = new Solid[MOST_PARTS];
        private final Solid moved = new Solid();
        private final Solid passed = new Solid();
        /** Of each half the parts that bar one of it: nine bits for each of the six ways. */
        private final long[] barrers = new long[SETS];
        /** Of each part the same, as if nobody were bent. */
        private final long[] own = new long[MOST_PARTS];
        /** From which parts a ring's first one is reached in 0, 1, .. steps. */
        private final int[] reaching = new int[MOST_PARTS + 1];

        Ways(Shape shape) {
            this.shape = shape;
            for (int p = 0; p < MOST_PARTS; p++) {
                bodies[p] = new Solid();
            }
        }

        void measure(boolean swell) {
            for (int p = 0; p < shape.parts; p++) {
                bodies[p].copy(shape.bodies[p]);
                for (int way = 0; way < WAYS && swell; way++) {
                    if (shape.isSwollen(p, way)) {
                        growBody(p, way);
                    }
                }
            }
            for (int p = 0; p < shape.parts; p++) {
                own[p] = barrersOf(p);
            }
            combine();
        }

        /** As long as nobody is swollen both are the same. */
        void copy(Ways other) {
            for (int p = 0; p < shape.parts; p++) {
                own[p] = other.own[p];
            }
            combine();
        }

        /** Leaves out who is bent, and puts the parts together to halves. */
        void combine() {
            long straight = 0;
            for (int way = 0; way < WAYS; way++) {
                straight = straight << MOST_PARTS | shape.whole() & ~shape.bent;
            }
            for (int p = 0; p < shape.parts; p++) {
                barrers[1 << p] = shape.isBent(p) ? 0 : own[p] & straight;
            }
            for (int half = 1; half <= shape.whole(); half++) {
                int others = half & half - 1;
                barrers[half] = barrers[others] | barrers[half ^ others];
            }
        }

        private void growBody(int p, int way) {
            moved.copy(shape.bodies[p]);
            moved.step(way);
            moved.drop(shape.all);
            bodies[p].join(moved);
        }

        private long barrersOf(int p) {
            long all = 0;
            for (int way = 0; way < WAYS; way++) {
                sweep(bodies[p], way);
                for (int q = 0; q < shape.parts; q++) {
                    if (q != p && passed.meets(bodies[q])) {
                        all |= 1L << MOST_PARTS * way + q;
                    }
                }
            }
            return all;
        }

        private void sweep(Solid body, int way) {
            moved.copy(body);
            passed.wipe();
            for (int k = 1; k < EDGE; k++) {
                moved.step(way);
                passed.join(moved);
            }
        }

        /** All parts that bar one of a half; those of the half itself may be among them. */
        int barring(int half, int way) {
            return (int) (barrers[half] >>> MOST_PARTS * way) & SETS - 1;
        }

        boolean isGood(int heap, int half, int way) {
            return (barring(half, way) & heap & ~half) == 0 && shape.stuckJoint(heap, half) == NONE;
        }

        /**
         * The ways on which a cut with this half is good, as bits. Where a half can go the rest can go on
         * the way back, so of a parting it is enough to ask one half.
         */
        int goodWays(int heap, int half) {
            int rest = heap & ~half;
            long all = barrers[half];
            int found = 0;
            for (int way = 0; way < WAYS; way++) {
                if ((all & rest) == 0) {
                    found |= 1 << way;
                }
                all >>>= MOST_PARTS;
            }
            return found == 0 || shape.stuckJoint(heap, half) != NONE ? 0 : found;
        }

        /** What 0 the ring's length, 1 + k its part k; NONE without a ring. */
        int findRing(int heap, int way, int what) {
            for (int length = 2; length <= MOST_PARTS; length++) {
                for (int p = 0; p < shape.parts; p++) {
                    if ((heap >> p & 1) != 0 && closesRing(heap, way, p, length)) {
                        return what == 0 ? length : partOfRing(way, p, length, what - 1);
                    }
                }
            }
            return NONE;
        }

        /** Whether a ring of that length goes from p over parts above p alone back to p. */
        private boolean closesRing(int heap, int way, int p, int length) {
            int allowed = heap & ~((1 << p) - 1);
            reaching[0] = 1 << p;
            for (int k = 1; k <= length; k++) {
                reaching[k] = 0;
                for (int q = p; q < shape.parts; q++) {
                    if ((allowed >> q & 1) != 0 && (barring(1 << q, way) & reaching[k - 1]) != 0) {
                        reaching[k] |= 1 << q;
                    }
                }
            }
            return (reaching[length] >> p & 1) != 0;
        }

        private int partOfRing(int way, int first, int length, int k) {
            if (k >= length) {
                return NONE;
            }
            int part = first;
            for (int i = 1; i <= k && part != NONE; i++) {
                part = leastOf(barring(1 << part, way) & reaching[length - i]);
            }
            return part;
        }
    }

    /** What stands by itself and what must be held. */
    private static final class Hands {
        private final Shape shape;
        private final Solid cells = new Solid();
        /** Of each part those on which it lies. */
        private final int[] under = new int[MOST_PARTS];
        private final int[] lowest = new int[MOST_PARTS];
        /** Of each heap what must be held, and how many hands it needs. */
        final int[] held = new int[SETS];
        final int[] need = new int[SETS];
        private boolean fresh = false;

        Hands(Shape shape) {
            this.shape = shape;
        }

        void stale() {
            fresh = false;
        }

        void refresh() {
            if (fresh) {
                return;
            }
            findUnder();
            for (int heap = 1; heap <= shape.whole(); heap++) {
                int floor = floorOf(heap);
                held[heap] = findHeld(heap, onFloor(heap, floor));
                need[heap] = Integer.bitCount(held[heap]) + (tips(heap, floor) ? 1 : 0);
            }
            fresh = true;
        }

        int tipping(int heap) {
            return need[heap] - Integer.bitCount(held[heap]);
        }

        private void findUnder() {
            for (int p = 0; p < shape.parts; p++) {
                lowest[p] = Solid.lowest(shape.bodies[p].shadow(2));
                cells.copy(shape.bodies[p]);
                cells.step(5);
                under[p] = 0;
                for (int q = 0; q < shape.parts; q++) {
                    if (q != p && cells.meets(shape.bodies[q])) {
                        under[p] |= 1 << q;
                    }
                }
            }
        }

        /** The sets come from the least on, so of those with the fewest the least is kept. */
        private int findHeld(int heap, int grounded) {
            if (allRest(heap, grounded)) {
                return 0;
            }
            int best = heap;
            int set = 0;
            for (int left = halvesOf(heap); left > 0; left--) {
                set = nextHalf(heap, set);
                if (Integer.bitCount(set) < Integer.bitCount(best) && allRest(heap, set | grounded)) {
                    best = set;
                }
            }
            return best;
        }

        private int floorOf(int heap) {
            int floor = LAST;
            for (int p = 0; p < shape.parts; p++) {
                if ((heap >> p & 1) != 0) {
                    floor = Math.min(floor, lowest[p]);
                }
            }
            return floor;
        }

        private int onFloor(int heap, int floor) {
            int found = 0;
            for (int p = 0; p < shape.parts; p++) {
                if ((heap >> p & 1) != 0 && lowest[p] == floor) {
                    found |= 1 << p;
                }
            }
            return found;
        }

        private boolean allRest(int heap, int first) {
            int resting = first;
            for (int k = 0; k < shape.parts && resting != heap; k++) {
                for (int p = 0; p < shape.parts; p++) {
                    if ((heap >> p & 1) != 0 && (under[p] & resting) != 0) {
                        resting |= 1 << p;
                    }
                }
            }
            return resting == heap;
        }

        private boolean tips(int heap, int floor) {
            shape.collect(heap, cells);
            int n = cells.count();
            int sumX = cells.doubledSum(0);
            int sumY = cells.doubledSum(1);
            cells.keep(2, 1 << floor);
            return falls(n, sumX, cells.shadow(0)) || falls(n, sumY, cells.shadow(1));
        }

        private static boolean falls(int n, int sum, int foot) {
            return sum < 2 * n * Solid.lowest(foot) || sum > 2 * n * (Solid.highest(foot) + 1);
        }
    }

    /** How many orders each heap has, and the cheapest one of each. */
    private static final class Orders {
        final long[] count = new long[SETS];
        final int[] least = new int[SETS];
        final int[] bestHalf = new int[SETS];
        final int[] bestWay = new int[SETS];
        boolean fresh = false;
        private final int[] waiting = new int[2 * MOST_PARTS];
        private final Shape shape;
        private final Hands hands;
        private final int[] prices;

        Orders(Shape shape, Hands hands, int[] prices) {
            this.shape = shape;
            this.hands = hands;
            this.prices = prices;
        }

        /** The parts in glued (0: none) are never parted. */
        void fill(Ways ways, int glued) {
            for (int heap = 1; heap <= shape.whole(); heap++) {
                boolean one = isOne(heap) || heap == glued;
                count[heap] = one ? 1 : 0;
                least[heap] = one ? 0 : NONE;
                if (!one && holdsAllOrNone(heap, glued)) {
                    fillHeap(ways, heap, glued);
                }
            }
            fresh = true;
        }

        private static boolean holdsAllOrNone(int set, int glued) {
            return (set & glued) == 0 || (set & glued) == glued;
        }

        private void fillHeap(Ways ways, int heap, int glued) {
            int first = heap & -heap;
            int half = 0;
            for (int left = halvesOf(heap); left > 0; left--) {
                half = nextHalf(heap, half);
                int rest = heap & ~half;
                if (!holdsAllOrNone(half, glued) || count[half] == 0 || count[rest] == 0) {
                    continue;
                }
                int good = ways.goodWays(heap, half);
                if (good != 0 && (half & first) != 0) {
                    count[heap] += count[half] * count[rest];
                }
                tryCut(heap, half, good);
            }
        }

        private void tryCut(int heap, int half, int good) {
            int halves = least[half] + least[heap & ~half];
            for (int way = 0; way < WAYS; way++) {
                if ((good >> way & 1) != 0) {
                    int cost = halves + prices[way] + prices[HAND] * hands.need[heap];
                    if (least[heap] == NONE || cost < least[heap]) {
                        least[heap] = cost;
                        bestHalf[heap] = half;
                        bestWay[heap] = way;
                    }
                }
            }
        }

        long ofWhole(int what) {
            int whole = shape.whole();
            if (what == 0) {
                return whole == 0 ? 0 : count[whole];
            }
            return whole == 0 ? NONE : least[whole];
        }

        /** The heap that cut k of the plan parts, or NONE. */
        int planHeap(int k) {
            if (k < 0 || k >= MOST_PARTS || ofWhole(1) == NONE) {
                return NONE;
            }
            int cuts = 0;
            int depth = 1;
            waiting[0] = shape.whole();
            for (int turn = 0; turn < 2 * MOST_PARTS && depth > 0; turn++) {
                depth--;
                int heap = waiting[depth];
                if (!isOne(heap)) {
                    if (cuts == k) {
                        return heap;
                    }
                    cuts++;
                    waiting[depth] = heap & ~bestHalf[heap];
                    waiting[depth + 1] = bestHalf[heap];
                    depth += 2;
                }
            }
            return NONE;
        }
    }

    /** What is found by going through all heaps: the net, rounds, times, and orders of special kinds. */
    private static final class Net {
        private static final int IN_NET = 1;
        private static final int LIVE = 2;

        final int[] partings = new int[SETS];
        final int[] rounds = new int[SETS];
        final int[] alone = new int[SETS];
        final int[] byTwo = new int[SETS];
        private final int[] marks = new int[SETS];
        private final long[] found = new long[SETS];
        private boolean fresh = false;
        private boolean timesFresh = false;
        private final Shape shape;
        private final Ways ways;
        private final Space space;

        Net(Shape shape, Ways ways, Space space) {
            this.shape = shape;
            this.ways = ways;
            this.space = space;
        }

        void stale() {
            fresh = false;
            timesFresh = false;
        }

        void refresh(Orders orders) {
            if (fresh) {
                return;
            }
            for (int heap = 1; heap <= shape.whole(); heap++) {
                fillPartings(heap);
            }
            fillMarks(orders);
            fresh = true;
        }

        private void fillPartings(int heap) {
            partings[heap] = 0;
            rounds[heap] = isOne(heap) ? 0 : NONE;
            int first = heap & -heap;
            int half = 0;
            for (int left = halvesOf(heap); left > 0; left--) {
                half = nextHalf(heap, half);
                if ((half & first) != 0 && ways.goodWays(heap, half) != 0) {
                    partings[heap]++;
                    tryRounds(heap, rounds[half], rounds[heap & ~half]);
                }
            }
        }

        private void tryRounds(int heap, int ofHalf, int ofRest) {
            int all = 1 + Math.max(ofHalf, ofRest);
            if (ofHalf != NONE && ofRest != NONE && (rounds[heap] == NONE || all < rounds[heap])) {
                rounds[heap] = all;
            }
        }

        private void fillMarks(Orders orders) {
            int whole = shape.whole();
            Arrays.fill(marks, 0);
            if (whole > 0) {
                marks[whole] = orders.count[whole] > 0 ? IN_NET | LIVE : IN_NET;
            }
            for (int heap = whole; heap > 0; heap--) {
                if (marks[heap] != 0) {
                    markHalves(orders, heap);
                }
            }
        }

        private void markHalves(Orders orders, int heap) {
            int half = 0;
            for (int left = halvesOf(heap); left > 0; left--) {
                half = nextHalf(heap, half);
                int rest = heap & ~half;
                if (half < rest && ways.goodWays(heap, half) != 0) {
                    boolean live = isLive(heap) && orders.count[half] > 0 && orders.count[rest] > 0;
                    marks[half] |= live ? IN_NET | LIVE : IN_NET;
                    marks[rest] |= live ? IN_NET | LIVE : IN_NET;
                }
            }
        }

        boolean inNet(int heap) {
            return (marks[heap] & IN_NET) != 0;
        }

        boolean isLive(int heap) {
            return (marks[heap] & LIVE) != 0;
        }

        private boolean isNever(int heap) {
            return !isOne(heap) && partings[heap] == 0;
        }

        /** What 0 heaps of the net, 1 the live ones, 2 those of them that are never parted. */
        int howMany(int what) {
            int number = 0;
            for (int heap = 1; heap <= shape.whole(); heap++) {
                boolean counts = what == 1 ? isLive(heap) : inNet(heap) && (what == 0 || isNever(heap));
                number += counts ? 1 : 0;
            }
            return number;
        }

        int largestLiveWithout(int p) {
            int best = 0;
            for (int heap = 1; heap <= shape.whole(); heap++) {
                boolean more = Integer.bitCount(heap) > Integer.bitCount(best);
                if (more && (heap >> p & 1) == 0 && isLive(heap)) {
                    best = heap;
                }
            }
            return best == 0 ? NONE : best;
        }

        int cutsDownTo(int p) {
            for (int heap = 1; heap <= shape.whole(); heap++) {
                if ((heap >> p & 1) != 0) {
                    found[heap] = isOne(heap) ? 0 : fewestCuts(heap, p);
                }
            }
            return (int) found[shape.whole()];
        }

        private long fewestCuts(int heap, int p) {
            long fewest = NONE;
            int half = 0;
            for (int left = halvesOf(heap); left > 0; left--) {
                half = nextHalf(heap, half);
                boolean open = (half >> p & 1) != 0 && found[half] != NONE;
                if (open && (fewest == NONE || found[half] + 1 < fewest) && ways.goodWays(heap, half) != 0) {
                    fewest = found[half] + 1;
                }
            }
            return fewest;
        }

        long lonelyOrders(int heap) {
            for (int set = 1; set <= heap; set++) {
                if (within(set, heap)) {
                    found[set] = isOne(set) ? 1 : sumOfLonely(set);
                }
            }
            return found[heap];
        }

        private long sumOfLonely(int set) {
            long sum = 0;
            for (int p = 0; p < shape.parts; p++) {
                int one = 1 << p;
                boolean counted = isOne(set & ~one) && one > (set & ~one);
                if ((set & one) != 0 && !counted && ways.goodWays(set, one) != 0) {
                    sum += found[set & ~one];
                }
            }
            return sum;
        }

        void freshTimes() {
            if (timesFresh) {
                return;
            }
            for (int heap = 1; heap <= shape.whole(); heap++) {
                alone[heap] = isOne(heap) ? 0 : NONE;
                byTwo[heap] = alone[heap];
                fillTimes(heap);
            }
            timesFresh = true;
        }

        private void fillTimes(int heap) {
            int half = 0;
            for (int left = halvesOf(heap); left > 0; left--) {
                half = nextHalf(heap, half);
                int rest = heap & ~half;
                int good = mayBeQuicker(heap, half, rest) ? ways.goodWays(heap, half) : 0;
                if (good != 0) {
                    int cut = quickest(heap, half, good);
                    alone[heap] = lesser(alone[heap], cut + alone[half] + alone[rest]);
                    byTwo[heap] = lesser(byTwo[heap], cut + Math.max(byTwo[half], byTwo[rest]));
                }
            }
        }

        private boolean mayBeQuicker(int heap, int half, int rest) {
            if (alone[half] == NONE || alone[rest] == NONE) {
                return false;
            }
            boolean forOne = alone[half] + alone[rest] < alone[heap];
            boolean forTwo = Math.max(byTwo[half], byTwo[rest]) < byTwo[heap];
            return alone[heap] == NONE || forOne || forTwo;
        }

        private int quickest(int heap, int half, int good) {
            int best = NONE;
            space.load(heap, half);
            for (int way = 0; way < WAYS; way++) {
                if ((good >> way & 1) != 0) {
                    best = lesser(best, space.cellsTillOut(way));
                }
            }
            return best;
        }

        private static int lesser(int old, int other) {
            return old == NONE ? other : Math.min(old, other);
        }
    }

    /** What is seen of a half and how it moves, its cells alone counting. */
    private static final class Space {
        private static final int REACH = 8;
        private static final int SPAN = 2 * REACH + 1;
        private static final int OFFSETS = SPAN * SPAN * SPAN;
        private static final int WORDS = (OFFSETS + 63) / 64;

        private final Shape shape;
        private final Solid half = new Solid();
        private final Solid rest = new Solid();
        private final Solid work = new Solid();
        private final Solid other = new Solid();
        private final int[] halfFronts = new int[LINES];
        private final int[] restFronts = new int[LINES];
        /** A bit for each offset of the half: whether it is known, and taken; reached; of this level and the next. */
        private final long[] known = new long[WORDS];
        private final long[] taken = new long[WORDS];
        private final long[] reached = new long[WORDS];
        private final long[] level = new long[WORDS];
        private final long[] next = new long[WORDS];

        Space(Shape shape) {
            this.shape = shape;
        }

        void load(int heap, int halfSet) {
            shape.collect(halfSet, half);
            shape.collect(heap & ~halfSet, rest);
        }

        int bestSide() {
            int best = 0;
            int most = NONE;
            for (int way = 0; way < WAYS; way++) {
                int seen = linesSeen(way);
                if (seen > most) {
                    most = seen;
                    best = way;
                }
            }
            return best;
        }

        int linesSeen(int way) {
            findFronts(half, way, halfFronts);
            findFronts(rest, way, restFronts);
            int seen = 0;
            for (int line = 0; line < LINES; line++) {
                seen += halfFronts[line] > restFronts[line] ? 1 : 0;
            }
            return seen;
        }

        /** Of each line along a side how near to that side (0 .. 7) its first cell is; NONE without one. */
        private static void findFronts(Solid cells, int side, int[] fronts) {
            for (int line = 0; line < LINES; line++) {
                fronts[line] = NONE;
                for (int near = LAST; near >= 0 && fronts[line] == NONE; near--) {
                    int c = signOf(side) > 0 ? near : LAST - near;
                    if (hasOnLine(cells, axisOf(side), line, c)) {
                        fronts[line] = near;
                    }
                }
            }
        }

        private static boolean hasOnLine(Solid cells, int axis, int line, int c) {
            int u = line % EDGE;
            int v = line / EDGE;
            if (axis == 0) {
                return cells.has(c, u, v);
            }
            return axis == 1 ? cells.has(u, c, v) : cells.has(u, v, c);
        }

        int leastPull(int way, int side) {
            findFronts(half, side, halfFronts);
            findFronts(rest, side, restFronts);
            for (int d = 0; d <= FARTHEST; d++) {
                if (isClear(way, side, d * signOf(way))) {
                    return d;
                }
            }
            return NONE;
        }

        private boolean isClear(int way, int side, int shift) {
            boolean along = axisOf(way) == axisOf(side);
            boolean firstAcross = axisOf(way) == (axisOf(side) == 0 ? 1 : 0);
            int du = !along && firstAcross ? shift : 0;
            int dv = !along && !firstAcross ? shift : 0;
            int nearer = along ? shift * signOf(side) : 0;
            for (int line = 0; line < LINES; line++) {
                int front = frontOfHalf(line % EDGE - du, line / EDGE - dv);
                boolean both = front != NONE && restFronts[line] != NONE;
                if (both && restFronts[line] > front + nearer) {
                    return false;
                }
            }
            return true;
        }

        private int frontOfHalf(int u, int v) {
            boolean inside = u >= 0 && u < EDGE && v >= 0 && v < EDGE;
            return inside ? halfFronts[EDGE * v + u] : NONE;
        }

        int cellsTillOut(int way) {
            int axis = axisOf(way);
            work.copy(half);
            for (int across = 0; across < AXES; across++) {
                if (across != axis) {
                    work.keep(across, spanOf(rest.shadow(across)));
                }
            }
            int there = work.shadow(axis);
            int bounds = spanOf(rest.shadow(axis));
            for (int d = 0; d < FARTHEST; d++) {
                if ((there & bounds) == 0) {
                    return d;
                }
                there = signOf(way) > 0 ? there << 1 : there >> 1;
            }
            return FARTHEST;
        }

        private static int spanOf(int bits) {
            return (2 << Solid.highest(bits)) - (1 << Solid.lowest(bits));
        }

        /** Goes through all offsets level by level, so the first that comes out is the nearest. */
        int fewestGoings() {
            Arrays.fill(known, 0);
            Arrays.fill(taken, 0);
            Arrays.fill(reached, 0);
            Arrays.fill(next, 0);
            int start = OFFSETS / 2;
            mark(reached, start);
            mark(next, start);
            for (int depth = 0; depth < OFFSETS && takeLevel(); depth++) {
                if (someComesOut()) {
                    return depth;
                }
                spreadLevel();
            }
            return NONE;
        }

        private boolean takeLevel() {
            boolean some = false;
            for (int word = 0; word < WORDS; word++) {
                level[word] = next[word];
                next[word] = 0;
                some |= level[word] != 0;
            }
            return some;
        }

        private boolean someComesOut() {
            for (int word = 0; word < WORDS; word++) {
                for (int bit = 0; bit < 64 && level[word] != 0; bit++) {
                    for (int way = 0; way < WAYS && isMarked(level, 64 * word + bit); way++) {
                        if (isOpen(64 * word + bit, way)) {
                            return true;
                        }
                    }
                }
            }
            return false;
        }

        private void spreadLevel() {
            for (int word = 0; word < WORDS; word++) {
                for (int bit = 0; bit < 64 && level[word] != 0; bit++) {
                    if (isMarked(level, 64 * word + bit)) {
                        spreadFrom(64 * word + bit);
                    }
                }
            }
        }

        private void spreadFrom(int spot) {
            for (int way = 0; way < WAYS; way++) {
                int to = stepsLeft(spot, way) > 0 ? spot + strideOf(way) : spot;
                if (!isMarked(reached, to) && isFree(to)) {
                    mark(reached, to);
                    mark(next, to);
                }
            }
        }

        /** Farther than eight cells away it meets nobody any more. */
        private boolean isOpen(int spot, int way) {
            int far = stepsLeft(spot, way);
            for (int k = 1; k <= far; k++) {
                if (!isFree(spot + k * strideOf(way))) {
                    return false;
                }
            }
            return true;
        }

        private boolean isFree(int spot) {
            if (!isMarked(known, spot)) {
                mark(known, spot);
                if (half.meetsMoved(rest, offsetAt(spot, 0), offsetAt(spot, 1), offsetAt(spot, 2))) {
                    mark(taken, spot);
                }
            }
            return !isMarked(taken, spot);
        }

        private static boolean isMarked(long[] bits, int spot) {
            return (bits[spot >> 6] >>> (spot & 63) & 1) != 0;
        }

        private static void mark(long[] bits, int spot) {
            bits[spot >> 6] |= 1L << (spot & 63);
        }

        /** Offsets are numbered so that a step on a way is always the same number more or less. */
        private static int strideOf(int way) {
            int axis = axisOf(way);
            return signOf(way) * (axis == 0 ? 1 : axis == 1 ? SPAN : SPAN * SPAN);
        }

        private static int offsetAt(int spot, int axis) {
            int lines = axis == 0 ? spot : axis == 1 ? spot / SPAN : spot / SPAN / SPAN;
            return lines % SPAN - REACH;
        }

        private static int stepsLeft(int spot, int way) {
            return REACH - signOf(way) * offsetAt(spot, axisOf(way));
        }

        /** Axis NONE: moved alone, else also turned about at that axis. */
        boolean areLike(int p, int q, int axis) {
            if (axis == NONE) {
                work.copy(shape.bodies[p]);
            } else {
                work.becomeMirror(shape.bodies[p], axis);
            }
            work.settle();
            other.copy(shape.bodies[q]);
            other.settle();
            return work.isSame(other);
        }

        boolean goesInMirrored(int p, int axis) {
            if (areLike(p, p, axis)) {
                return false;
            }
            int bits = shape.bodies[p].shadow(axis);
            int back = Solid.lowest(bits) + Solid.highest(bits) - LAST;
            work.becomeMirror(shape.bodies[p], axis);
            for (int k = 0; k < Math.abs(back); k++) {
                work.step(back > 0 ? 2 * axis : 2 * axis + 1);
            }
            other.copy(shape.all);
            other.drop(shape.bodies[p]);
            return !work.meets(other);
        }
    }
}
