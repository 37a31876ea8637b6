/** Promises 30 to 34: pulls, parts that are like one another, mirrored ones, minutes and times. */
final class ShapeBoundaries {
    /** Two plates as wide as can be, as far from one another as can be. */
    private static final String PLATES = "part a box 0 0 0 8 8 1; part b box 0 0 7 8 8 1; part c box 3 3 3 1 1 1;";
    /** A hook in an eye, as long as can be: they part northwards or southwards alone. */
    private static final String HOOK = "part a box 1 0 0 1 8 1 box 1 0 1 3 8 1; part b box 2 0 0 1 8 1 box 2 0 2 1 8 1 box 0 0 2 2 8 1 box 0 0 0 1 8 2;";
    /** Four cells that are no mirror of themselves in x or y. */
    private static final String EL = "part a box 2 3 4 3 1 1 box 2 4 4 1 1 1;";

    private final Sentences s;

    ShapeBoundaries(Sentences s) {
        this.s = s;
    }

    void test() {
        pull();
        pullBeyond();
        noPull();
        like();
        mirrors();
        mirrored();
        minutes();
        noMinutes();
        time();
    }

    private void pull() {
        s.holds(30, "PULL of a HALF of a HEAP on a WAY, seen from a side", () -> {
            for (int k = 0; k < 6; k++) {
                HandsOrder x = Told.of(Told.turned(PLATES, k));
                int turn = k;
                int up = Told.turnedWay(4, k);
                s.row("the plate below, from above, turned " + k, way -> x.pull(3, 1, Told.turnedWay(way, turn), up), 8, 8, 8, 8, 7, -1);
                s.row("the plate below, from below, turned " + k, way -> x.pull(3, 1, Told.turnedWay(way, turn), up ^ 1), 0, 0, 0, 0, 0, 0);
                s.row("the plate above, from below, turned " + k, way -> x.pull(3, 2, Told.turnedWay(way, turn), up ^ 1), 8, 8, 8, 8, -1, 7);
            }
        });
        s.holds(30, "none of the rest is met, coming from that side, ahead of the first one of the HALF", () -> {
            for (int side = 0; side < 6; side++) {
                int back = side ^ 1;
                HandsOrder x = Told.of(Told.part("a", Told.away(3, 3, 3, back, 2)) + Told.part("b", "3 3 3") + Told.part("c", Told.away(3, 3, 3, side, 2)));
                s.due("b ahead of a", x.pull(3, 1, side, side), 2);
                s.due("a behind b", x.pull(3, 2, side, side), 0);
                s.due("b and c ahead of a", x.pull(7, 1, side, side), 4);
                s.due("c of the half, too", x.pull(7, 5, side, side), 0);
                s.due("c is not of the heap", x.pull(3, 2, back, side), 0);
                s.due("c is ahead of a and b", x.pull(7, 3, side, side), 2);
            }
        });
        s.holds(30, "PULL: the least d with which it is CLEAR (whatever is in the way)", () -> {
            HandsOrder cage = Told.of(Told.CAGE);
            for (int side = 0; side < 6; side++) {
                int from = side;
                for (int way = 0; way < 6; way++) {
                    s.due("a through its cage on " + way + ", from " + side, cage.pull(3, 1, way, from), way == (side ^ 1) ? -1 : 1);
                }
            }
        });
    }

    private void pullBeyond() {
        s.holds(30, "CELLS beyond 0 .. 7 count, too", () -> {
            // pulled by one, a has a cell beyond the edge, which is ahead of b's
            String text = "part a box 7 0 0 1 1 1 box 0 0 0 1 2 1; part b box 3 0 0 1 1 1 box 1 1 0 1 1 1;";
            for (int k = 0; k < 6; k++) {
                int way = Told.turnedWay(0, k);
                s.due("ahead of all, turned " + k, Told.of(Told.turned(text, k)).pull(3, 1, way, way), 1);
            }
            // beyond the edge no line comes in again on the other side
            for (int side = 0; side < 6; side++) {
                for (int way = 0; way < 6; way++) {
                    if (way / 2 != side / 2) {
                        int[] at = {3, 3, 3};
                        at[way / 2] = way % 2 == 0 ? 7 : 0;
                        int[] plate = {0, 0, 0, 8, 8, 8};
                        plate[side / 2] = side % 2 == 0 ? 5 : 1;
                        plate[3 + side / 2] = 1;
                        HandsOrder x = Told.of(Told.part("a", Told.spot(at)) + "part b box " + Told.spot(plate) + ";");
                        s.due("from under a plate on " + way + ", seen from " + side, x.pull(3, 1, way, side), 1);
                        s.due("all along under it", x.pull(3, 1, way ^ 1, side), 8);
                    }
                }
            }
        });
        s.holds(30, "if on each line of CELLS along that side which has a CELL of the HALF as it is moved then", () -> {
            for (int side = 0; side < 6; side++) {
                for (int corner = 0; corner < 4; corner++) {
                    int[] at = {3, 3, 3};
                    at[(side / 2 + 1) % 3] = 7 * (corner % 2);
                    at[(side / 2 + 2) % 3] = 7 * (corner / 2);
                    HandsOrder x = Told.of(Told.part("a", Told.spot(at)) + Told.part("b", Told.away(at[0], at[1], at[2], side, 2)));
                    s.due("corner " + corner + " from " + side + ", away", x.pull(3, 1, side ^ 1, side), -1);
                    s.due("corner " + corner + " from " + side + ", nearer", x.pull(3, 1, side, side), 2);
                }
            }
        });
        s.holds(30, "PULLED by d (0 .. 16) on a WAY", () -> {
            s.due("by 0", Told.of(Told.TOWER).pull(7, 4, 4, 4), 0);
            s.due("by 8", Told.of(PLATES).pull(3, 1, 0, 4), 8);
        });
    }

    private void noPull() {
        s.holds(30, "NONE if there is none, or one can't be.", () -> {
            HandsOrder x = Told.of(Told.TOWER);
            s.due("a away from c", x.pull(7, 1, 5, 4), -1);
            s.due("c away from a", x.pull(7, 4, 4, 5), -1);
            s.noHalves("pull", (heap, half) -> x.pull(heap, half, 0, 0));
            s.each("pull on way", Sentences.NO_WAYS, way -> x.pull(7, 1, way, 0), -1);
            s.each("pull from side", Sentences.NO_WAYS, side -> x.pull(7, 1, 0, side), -1);
            s.due("pull on way 6", x.pull(7, 1, 6, 0), -1);
            s.due("pull from side 6", x.pull(7, 1, 0, 6), -1);
        });
    }

    private void like() {
        s.holds(31, "Of two PARTS (may be the same)", () -> {
            HandsOrder x = Told.of(Told.parts(8) + "part i box 0 1 0 2 1 1 box 0 2 0 1 1 1 box 0 1 1 1 1 1;");
            for (int p = 0; p < 9; p++) {
                s.due("like itself " + p, x.like(p, p, 0), 1);
            }
            s.row("no mirror of itself", what -> x.like(8, 8, what), 1, 0, 0, 0);
            s.row("a cell is", what -> x.like(0, 0, what), 1, 1, 1, 1);
            s.row("the first and the last cell", what -> x.like(0, 7, what), 1, 1, 1, 1);
        });
        s.holds(31, "PARTS are LIKE one another, if the one moved (not turned) has just the CELLS of the other", () -> {
            HandsOrder x = Told.of("part a box 0 0 0 2 1 1; part b box 6 7 7 2 1 1; part c box 3 3 3 1 2 1; part d box 0 2 2 3 1 1;"
                    + " part e box 7 4 0 1 1 1 box 0 5 0 1 1 1; part f box 7 7 2 1 1 1 box 7 0 3 1 1 1; part g box 5 5 0 1 2 1;");
            s.row("a and ..", q -> x.like(0, q, 0), 1, 1, 0, 0, 0, 0, 0);
            s.row(".. and a", p -> x.like(p, 0, 0), 1, 1, 0, 0, 0, 0, 0);
            s.row("c and ..", q -> x.like(2, q, 0), 0, 0, 1, 0, 0, 0, 1);
            s.row("d has a cell more", q -> x.like(3, q, 0), 0, 0, 0, 1, 0, 0, 0);
            for (int k = 0; k < 3; k++) {
                HandsOrder high = Told.of(Told.turned("part a box 0 0 0 1 1 8; part b box 2 0 0 1 1 7; part c box 4 0 0 1 1 8;", k));
                s.row("as long as can be, turned " + k, q -> high.like(0, q, 0), 1, 0, 1);
                s.row("one shorter, turned " + k, q -> high.like(1, q, 0), 0, 1, 0);
            }
        });
        s.holds(31, "NONE if one can't be.", () -> {
            HandsOrder x = Told.of(Told.TOWER);
            for (int what = 0; what < 4; what++) {
                int w = what;
                s.each("like p", Sentences.NEVER_PARTS, p -> x.like(p, 0, w), -1);
                s.each("like q", Sentences.NEVER_PARTS, q -> x.like(0, q, w), -1);
                s.due("like 3", x.like(3, 0, w), -1);
                s.due("like 0 3", x.like(0, 3, w), -1);
                s.due("like 3 3", x.like(3, 3, w), -1);
            }
            s.each("like what", new int[] {-1, 4, 5, 32, Integer.MIN_VALUE, Integer.MAX_VALUE}, what -> x.like(0, 1, what), -1);
        });
    }

    private void mirrors() {
        s.holds(31, "1 .. 3 MIRRORS by axis 0 .. 2: 1 or 0", () -> {
            // a at the least corner, the others at the far edge of one axis each, turned about there
            HandsOrder x = Told.of("part a box 0 0 0 2 1 1 box 0 1 0 1 1 1 box 0 0 1 1 1 1; part b box 6 0 0 2 1 1 box 7 1 0 1 1 1 box 7 0 1 1 1 1;"
                    + " part c box 0 7 0 2 1 1 box 0 6 0 1 1 1 box 0 7 1 1 1 1; part d box 0 0 7 2 1 1 box 0 1 7 1 1 1 box 0 0 6 1 1 1;");
            s.row("a and b", what -> x.like(0, 1, what), 0, 1, 0, 0);
            s.row("a and c", what -> x.like(0, 2, what), 0, 0, 1, 0);
            s.row("a and d", what -> x.like(0, 3, what), 0, 0, 0, 1);
            s.row("b and a", what -> x.like(1, 0, what), 0, 1, 0, 0);
            s.row("c and a", what -> x.like(2, 0, what), 0, 0, 1, 0);
            s.row("d and a", what -> x.like(3, 0, what), 0, 0, 0, 1);
            s.row("b and c", what -> x.like(1, 2, what), 0, 0, 0, 0);
        });
    }

    private void mirrored() {
        s.holds(32, "Whether a PART MAY GO IN MIRRORED by an axis: 1 or 0", () -> {
            s.row("nobody is in the way", axis -> Told.of(EL).mirrored(0, axis), 1, 1, 0);
            for (int far = 0; far < 2; far++) {
                String moved = Told.shifted(EL, far == 0 ? -2 : 3, far == 0 ? -3 : 3, far == 0 ? -4 : 3);
                s.row("at the edge " + far, axis -> Told.of(moved).mirrored(0, axis), 1, 1, 0);
            }
            s.row("as long as can be", axis -> Told.of("part a box 0 0 0 8 1 1 box 0 1 0 1 1 1;").mirrored(0, axis), 1, 1, 0);
        });
        s.holds(32, "if it is no MIRROR of itself by it", () -> {
            s.row("a cell", axis -> Told.of(Told.ONE_CELL).mirrored(0, axis), 0, 0, 0);
            s.row("all cells", axis -> Told.of("part a box 0 0 0 8 8 8;").mirrored(0, axis), 0, 0, 0);
            s.row("two cells far from one another", axis -> Told.of("part a box 0 0 0 1 1 1 box 7 0 0 1 1 1;").mirrored(0, axis), 0, 0, 0);
            s.row("in all three", axis -> Told.of("part a box 0 0 0 2 1 1 box 0 1 0 1 1 1 box 0 0 1 1 1 1;").mirrored(0, axis), 1, 1, 1);
        });
        s.holds(32, "turned about within its own bounds (from its least to its greatest CELL there), it has no CELL that another PART has", () -> {
            s.row("b where its foot comes in x", axis -> Told.of(EL + "part b box 4 4 4 1 1 1;").mirrored(0, axis), 0, 0, 0);
            s.row("b where it comes in y", axis -> Told.of(EL + "part b box 3 4 4 1 1 1;").mirrored(0, axis), 1, 0, 0);
            s.row("b beside", axis -> Told.of(EL + "part b box 5 4 4 1 1 1;").mirrored(0, axis), 1, 1, 0);
            s.row("b where it would come in all of 0 .. 7", axis -> Told.of(EL + "part b box 5 4 4 1 1 1 box 3 3 3 3 1 1 box 2 3 3 1 1 1;").mirrored(0, axis), 1, 1, 0);
            for (int k = 0; k < 6; k++) {
                // b has all cells beyond the bounds of a, at either edge; then also one to which a comes
                String foot = Told.turned("part a box 5 6 7 3 1 1 box 5 7 7 1 1 1; part b box 0 0 0 5 8 8 box 5 0 0 3 6 8 box 5 6 0 3 2 7", k);
                String step = Told.turned("part a box 5 5 5 1 1 3 box 6 5 5 1 1 1; part b box 0 0 0 5 8 8 box 5 0 0 3 8 5 box 5 0 5 3 5 3 box 5 6 5 3 2 3", k);
                int[] axes = {Told.turnedWay(0, k) / 2, Told.turnedWay(2, k) / 2, Told.turnedWay(4, k) / 2};
                s.row("a foot in a mold, turned " + k, axis -> Told.of(foot + ";").mirrored(0, axes[axis]), 1, 1, 0);
                s.row("a step in a mold, turned " + k, axis -> Told.of(step + ";").mirrored(0, axes[axis]), 1, 0, 1);
                String inFoot = Told.turned(" box 7 7 7 1 1 1;", k);
                String inStep = Told.turned(" box 6 5 7 1 1 1;", k);
                s.row("a foot in a mold that is filled, turned " + k, axis -> Told.of(foot + inFoot).mirrored(0, axes[axis]), 0, 0, 0);
                s.row("a step in a mold that is filled, turned " + k, axis -> Told.of(step + inStep).mirrored(0, axes[axis]), 0, 0, 0);
            }
            for (int at = 0; at < 6; at++) {
                for (int k = 0; k < 6; k++) {
                    int axis = Told.turnedWay(0, k) / 2;
                    String text = "part a box " + at + " 3 4 3 1 1 box " + at + " 4 4 1 1 1; part b box ";
                    s.due("b where the foot comes, at " + at + ", turned " + k, Told.of(Told.turned(text + (at + 2) + " 4 4 1 1 1;", k)).mirrored(0, axis), 0);
                    s.due("b beside it, at " + at + ", turned " + k, Told.of(Told.turned(text + (at + 1) + " 4 4 1 1 1;", k)).mirrored(0, axis), 1);
                }
            }
            HandsOrder nine = Told.of(Told.parts(8).replace("part a box 0 0 0 1 1 1;", EL) + Told.part("i", "4 4 4"));
            s.row("the last of nine is in the way", axis -> nine.mirrored(0, axis), 0, 0, 0);
        });
        s.holds(32, "NONE if one can't be.", () -> {
            HandsOrder x = Told.of(EL);
            s.each("mirrored", Sentences.NEVER_PARTS, p -> x.mirrored(p, 0), -1);
            s.due("mirrored 1 of one", x.mirrored(1, 0), -1);
            s.each("axis", new int[] {-1, 3, 4, 32, Integer.MIN_VALUE, Integer.MAX_VALUE}, axis -> x.mirrored(0, axis), -1);
        });
    }

    private void minutes() {
        s.holds(33, "MINUTES of a CUT, if it is GOOD", () -> {
            for (int k = 0; k < 6; k++) {
                HandsOrder x = Told.of(Told.turned(HOOK, k));
                int turn = k;
                s.row("the hook, turned " + k, way -> x.minutes(3, 1, Told.turnedWay(way, turn)), -1, -1, 8, 8, -1, -1);
                s.row("the eye, turned " + k, way -> x.minutes(3, 2, Told.turnedWay(way, turn)), -1, -1, 8, 8, -1, -1);
            }
            s.row("a cell beside another", way -> Told.of(Told.TWO_CELLS).minutes(3, 1, way), -1, 0, 0, 0, 0, 0);
        });
        s.holds(33, "none of its CELLS is within the bounds (from the least to the greatest CELL in x, y, z) of the rest", () -> {
            for (int k = 0; k < 6; k++) {
                int up = Told.turnedWay(4, k);
                String corner = "part b box 2 2 2 3 1 1 box 2 2 2 1 3 1 box 2 2 2 1 1 3; part a box 4 4 4 1 1 1;";
                HandsOrder x = Told.of(Told.turned(corner, k));
                s.due("in the corner of the bounds, turned " + k, x.minutes(3, 2, up), 1);
                s.due("the bounds of one cell, turned " + k, x.minutes(3, 1, up ^ 1), 0);
                HandsOrder deeper = Told.of(Told.turned(corner.replace("box 4 4 4 1 1 1", "box 3 3 3 1 1 1"), k));
                s.due("one deeper, turned " + k, deeper.minutes(3, 2, up), 2);
                HandsOrder outside = Told.of(Told.turned(corner.replace("box 4 4 4 1 1 1", "box 5 4 4 1 1 1 box 4 5 4 1 1 1 box 4 4 5 1 1 1"), k));
                s.due("just outside, turned " + k, outside.minutes(3, 2, up), 0);
            }
        });
        s.holds(33, "from the least to the greatest CELL in x, y, z", () -> {
            withinBounds(0, 2, 2, 4, 5, 7);
            withinBounds(3, 0, 0, 7, 5, 6);
            // moved eastwards, the cell that is ahead of the bounds comes into them
            for (int k = 0; k < 6; k++) {
                HandsOrder x = Told.of(Told.turned("part a box 1 3 3 1 1 1 box 4 3 3 1 1 1; part b box 2 2 2 1 1 1 box 4 4 4 1 1 1;", k));
                s.due("till the last is out, turned " + k, x.minutes(3, 1, Told.turnedWay(0, k)), 4);
                s.due("the other way, turned " + k, x.minutes(3, 1, Told.turnedWay(1, k)), 3);
            }
        });
        s.holds(33, "how many CELLS (0 .. 16)", () -> {
            s.due("0", Told.of(Told.TOWER).minutes(7, 4, 4), 0);
            s.due("as long as can be", Told.of(HOOK).minutes(3, 1, 2), 8);
        });
    }

    /** b has two corners of its bounds; a is one cell, at each place once. */
    private void withinBounds(int x, int y, int z, int x2, int y2, int z2) {
        for (int n = 0; n < 512; n++) {
            int[] a = {n % 8, n / 8 % 8, n / 64};
            HandsOrder thing = new HandsOrder();
            int parts = Told.thing(thing, "part b box " + Told.spot(x, y, z) + " 1 1 1 box " + Told.spot(x2, y2, z2) + " 1 1 1;" + Told.part("a", Told.spot(a)));
            boolean in = a[0] >= x && a[0] <= x2 && a[1] >= y && a[1] <= y2 && a[2] >= z && a[2] <= z2;
            int[] out = {x2 + 1 - a[0], a[0] + 1 - x, y2 + 1 - a[1], a[1] + 1 - y, z2 + 1 - a[2], a[2] + 1 - z};
            for (int way = 0; way < 6 && parts == 2; way++) {
                int due = thing.bars(1, way) != 0 ? -1 : in ? out[way] : 0;
                s.due("a at " + n + " on " + way, thing.minutes(3, 2, way), due);
            }
        }
    }

    private void noMinutes() {
        s.holds(33, "NONE if it is not, or one can't be (as for cut()).", () -> {
            HandsOrder x = Told.of(Told.TOWER);
            s.row("b between", way -> x.minutes(7, 2, way), 1, 1, 1, 1, -1, -1);
            s.noHalves("minutes", (heap, half) -> x.minutes(heap, half, 0));
            s.each("minutes on way", Sentences.NO_WAYS, way -> x.minutes(7, 1, way), -1);
            s.due("minutes on way 6", x.minutes(7, 1, 6), -1);
            HandsOrder joined = Told.of(Told.JOINED);
            s.due("a joint is not reached", joined.minutes(7, 1, 1), -1);
            s.due("it is, without c", joined.minutes(3, 1, 1), 0);
            HandsOrder cage = Told.of(Told.CAGE);
            s.row("a in its cage", way -> cage.minutes(3, 1, way), -1, -1, -1, -1, -1, -1);
            cage.bent(0, true);
            s.row("a, bent", way -> cage.minutes(3, 1, way), 2, 2, 2, 2, 2, 2);
        });
    }

    private void time() {
        s.holds(34, "Of a HEAP what 0 ALONE, 1 BY TWO", () -> {
            // the second pair lies across the first, so that both can't go at once
            HandsOrder x = Told.of(HOOK + Told.shifted(Told.turned(HOOK, 1), 0, 0, 4).replace("part a", "part c").replace("part b", "part d"));
            s.row("a one", what -> x.time(8, what), 0, 0);
            s.row("a pair", what -> x.time(12, what), 8, 8);
            s.row("both pairs", what -> x.time(15, what), 16, 8);
            String shorter = Told.shifted(Told.turned(HOOK.replace(" 8 ", " 3 "), 1), 0, 0, 4).replace("part a", "part c").replace("part b", "part d");
            s.row("a longer and a shorter one", what -> Told.of(HOOK + shorter).time(15, what), 11, 8);
            // two pairs part northwards at once, the third upwards: alone the first two are best parted at once, by two it is all the same
            String five = HOOK.replace(" 8 ", " 5 ");
            String beside = Told.shifted(five, 4, 0, 0).replace("part a", "part c").replace("part b", "part d");
            String upright = Told.shifted(Told.turned(five, 2), 4, 0, 3).replace("part a", "part e").replace("part b", "part f");
            s.row("three pairs", what -> Told.of(five + beside + upright).time(63, what), 10, 5);
            s.row("nine", what -> Told.of(Told.parts(9)).time(511, what), 0, 0);
        });
        s.holds(34, "0 of a ONE, else the least of a GOOD CUT's MINUTES and ALONE of both", () -> {
            s.due("a one", Told.of(Told.ONE_CELL).time(1, 0), 0);
            s.due("a step of 0", Told.of(Told.TWO_CELLS).time(3, 0), 0);
            // out of the pit it takes three, but the pit leaves the peg at once
            String peg = "part a box 1 1 1 1 1 2;";
            String hole = "part b box 0 0 0 3 3 1 box 0 0 1 1 3 3 box 2 0 1 1 3 3 box 1 0 1 1 1 3 box 1 2 1 1 1 3;";
            for (int k = 0; k < 6; k++) {
                HandsOrder pit = Told.of(Told.turned(peg + hole, k));
                s.due("the peg, turned " + k, pit.minutes(3, 1, Told.turnedWay(4, k)), 3);
                s.due("the pit, turned " + k, pit.minutes(3, 2, Told.turnedWay(5, k)), 0);
                s.row("the better half, turned " + k, what -> pit.time(3, what), 0, 0);
                HandsOrder back = Told.of(Told.turned(hole + peg, k));
                s.row("the better half is told first, turned " + k, what -> back.time(3, what), 0, 0);
            }
        });
        s.holds(34, "NONE without, if there is none such, or another what.", () -> {
            s.row("a never", what -> Told.of(Told.CAGE).time(3, what), -1, -1, -1);
            s.row("with a never in it", what -> Told.of(CutBoundaries.CAGE_AND_FREE).time(7, what), -1, -1, -1);
            s.row("with a never behind it", what -> Told.of(CutBoundaries.FREE_AND_CAGE).time(7, what), -1, -1, -1);
            s.row("a one in a never", what -> Told.of(Told.CAGE).time(1, what), 0, 0, -1);
            HandsOrder x = Told.of(Told.TOWER);
            for (int what = 0; what < 2; what++) {
                int w = what;
                s.each("time of heap", Sentences.NEVER_HEAPS, heap -> x.time(heap, w), -1);
                s.each("time of heap", new int[] {8, 9, 15}, heap -> x.time(heap, w), -1);
            }
            s.each("time what", new int[] {-1, 2, 3, 32, Integer.MIN_VALUE, Integer.MAX_VALUE}, what -> x.time(7, what), -1);
        });
    }
}
