/** Promises 14 to 19: rings, what is missing, what is got at, two in one, views and moves. */
final class NetBoundaries {
    /** a goes six cells along a tube that is shut at its end, then out at a hole; behind it it is held by the cell at 0 6 6. */
    private static final String TUNNEL = "part a box 0 3 3 1 1 1 box 1 6 6 1 1 1; part b box 0 6 6 1 1 1 box 7 3 3 1 1 1 box 0 4 3 6 1 1"
            + " box 0 2 3 7 1 1 box 0 3 4 7 1 1 box 0 3 2 7 1 1;";

    /** a goes two cells north and six east to a hole; behind it it is held by the cells at 0 3 6 to 0 5 6. */
    private static final String BEND = "part a box 0 1 3 1 1 1 box 1 3 6 1 1 1; part b box 0 3 6 1 3 1 box 0 0 3 1 1 1 box 1 1 3 1 2 1 box 2 2 3 5 1 1 box 0 4 3 6 1 1"
            + " box 7 3 3 1 1 1 box 0 1 4 1 3 1 box 1 3 4 6 1 1 box 0 1 2 1 3 1 box 1 3 2 6 1 1;";

    private final Sentences s;

    NetBoundaries(Sentences s) {
        this.s = s;
    }

    void test() {
        ring();
        ringOfSeveral();
        missing();
        down();
        inOne();
        view();
        side();
        moves();
        movesFar();
    }

    private void ring() {
        s.holds(14, "what 0 how many PARTS, 1 + k PART k.", () -> {
            HandsOrder x = Told.of(Told.wheel(9));
            s.row("nine eastwards", what -> x.ring(511, 0, what), 9, 0, 1, 2, 3, 4, 5, 6, 7, 8, -1, -1);
            s.row("nine westwards", what -> x.ring(511, 1, what), 9, 0, 8, 7, 6, 5, 4, 3, 2, 1, -1, -1);
            HandsOrder cage = Told.of(Told.CAGE);
            for (int way = 0; way < 6; way++) {
                int on = way;
                s.row("two on " + way, what -> cage.ring(3, on, what), 2, 0, 1, -1, -1, -1, -1, -1, -1, -1, -1);
            }
        });
        s.holds(14, "NONE if there is none, one can't be, or another what.", () -> {
            HandsOrder x = Told.of(Told.WHEEL);
            for (int what = 0; what < 5; what++) {
                int w = what;
                s.each("without a ring, way", new int[] {4, 5}, way -> x.ring(7, way, w), -1);
                s.each("a ring that is not whole, heap", new int[] {1, 2, 3, 4, 5, 6}, heap -> x.ring(heap, 0, w), -1);
                s.each("ring of heap", Sentences.NEVER_HEAPS, heap -> x.ring(heap, 0, w), -1);
                s.each("ring of heap", new int[] {8, 9, 15}, heap -> x.ring(heap, 0, w), -1);
                s.each("ring on way", Sentences.NO_WAYS, way -> x.ring(7, way, w), -1);
                s.due("ring on way 6", x.ring(7, 6, w), -1);
            }
            s.each("ring what", new int[] {-1, 4, 9, 10, 32, Integer.MIN_VALUE, Integer.MAX_VALUE}, what -> x.ring(7, 0, what), -1);
            s.each("nine, what", new int[] {-1, 10, 11, 512, Integer.MIN_VALUE, Integer.MAX_VALUE}, what -> Told.of(Told.wheel(9)).ring(511, 0, what), -1);
        });
        s.holds(14, "PARTS of it, each BARRED by the next, the last by the first", () -> {
            HandsOrder x = Told.of(Told.WHEEL);
            s.row("eastwards", what -> x.ring(7, 0, what), 3, 0, 1, 2);
            s.row("westwards", what -> x.ring(7, 1, what), 3, 0, 2, 1);
            x.bent(1, true);
            s.row("one of it is bent", what -> x.ring(7, 0, what), -1, -1, -1, -1);
            HandsOrder own = Told.of("part a box 0 0 0 1 1 1 box 2 0 0 1 1 1; part b box 4 0 0 1 1 1;");
            s.due("a part does not bar itself", own.ring(3, 0, 0), -1);
            s.due("a part alone", own.ring(1, 0, 0), -1);
        });
    }

    private void ringOfSeveral() {
        s.holds(14, "the shortest", () -> {
            HandsOrder x = Told.of(Told.WHEEL + "part d box 0 5 5 1 1 1 box 2 5 5 1 1 1; part e box 1 5 5 1 1 1;");
            s.row("two of higher numbers", what -> x.ring(31, 0, what), 2, 3, 4, -1);
            s.row("three, if the two are not there", what -> x.ring(15, 0, what), 3, 0, 1, 2, -1);
        });
        s.holds(14, "of several the first by its PARTS' numbers, begun with its least", () -> {
            HandsOrder x = Told.of("part a box 0 0 0 1 1 1 box 2 0 0 1 1 1 box 0 1 0 1 1 1 box 2 1 0 1 1 1; part b box 1 1 0 1 1 1; part c box 1 0 0 1 1 1;");
            s.row("a and b, a and c", what -> x.ring(7, 0, what), 2, 0, 1, -1);
            s.row("a and c", what -> x.ring(5, 0, what), 2, 0, 2, -1);
            HandsOrder last = Told.of("part b box 1 1 0 1 1 1; part c box 1 0 0 1 1 1; part a box 0 0 0 1 1 1 box 2 0 0 1 1 1 box 0 1 0 1 1 1 box 2 1 0 1 1 1;");
            s.row("b and a, c and a", what -> last.ring(7, 0, what), 2, 0, 2, -1);
            s.row("c and a", what -> last.ring(6, 0, what), 2, 1, 2, -1);
        });
    }

    private void missing() {
        s.holds(15, "of LIVE HEAPS without it that with the most PARTS, of several the least as a number", () -> {
            HandsOrder nine = Told.of(Told.parts(9));
            for (int p = 0; p < 9; p++) {
                s.due("missing " + p + " of nine", nine.missing(p), 511 & ~(1 << p));
            }
            HandsOrder shells = Told.of(Told.SHELLS);
            s.row("shells", shells::missing, 6, 5, 1);
            HandsOrder corners = Told.of(Told.CORNERS);
            s.row("corners", corners::missing, 12, 12, 3, 3);
            HandsOrder deep = Told.of(Told.DEEP);
            s.row("deep", deep::missing, 2, 1, 3, 7, 15);
        });
        s.holds(15, "NONE if there is none, or one can't be.", () -> {
            s.due("of a one", Told.of(Told.ONE_CELL).missing(0), -1);
            s.row("of a never", Told.of(Told.CAGE)::missing, -1, -1);
            s.row("with a never in it", Told.of(CutBoundaries.CAGE_AND_FREE)::missing, -1, -1, -1);
            HandsOrder x = Told.of(Told.TOWER);
            s.each("missing", Sentences.NEVER_PARTS, x::missing, -1);
            s.due("missing 3 of three", x.missing(3), -1);
            s.due("missing 9 of nine", Told.of(Told.parts(9)).missing(9), -1);
        });
    }

    private void down() {
        s.holds(16, "how many CUTS", () -> {
            s.due("of a one", Told.of(Told.ONE_CELL).down(0), 0);
            s.row("of the tower", Told.of(Told.TOWER)::down, 1, 1, 1);
            s.row("deep", Told.of(Told.DEEP)::down, 4, 4, 3, 2, 1);
            s.row("of the shells", Told.of(Told.SHELLS)::down, 1, 1, 2);
        });
        s.holds(16, "the fewest GOOD CUTS, each of the HEAP in which p is then, from THE WHOLE on till p is a ONE", () -> {
            // of a, b, c together a can't leave; of a, b, d it can, once c is gone
            HandsOrder x = Told.of("part a box 1 0 0 1 1 1 box 2 1 0 1 1 1 box 2 0 1 1 1 1; part b box 2 0 0 1 1 1 box 1 0 1 1 1 1 box 0 1 1 1 1 1;"
                    + " part c box 0 0 1 1 1 1 box 2 1 1 1 1 1; part d box 0 1 0 1 1 1;");
            s.row("a of all", way -> x.cut(15, 1, way), 0, 0, 0, 0, 0, 0);
            s.row("a, b and c of all", way -> x.cut(15, 7, way), 1, 0, 1, 1, 1, 0);
            s.row("a of those", way -> x.cut(7, 1, way), 0, 0, 0, 0, 0, 0);
            s.row("a, b and d of all", way -> x.cut(15, 11, way), 0, 0, 0, 0, 0, 1);
            s.row("a of those", way -> x.cut(11, 1, way), 0, 0, 1, 0, 0, 0);
            s.row("down", x::down, 2, 2, 1, 1);
        });
        s.holds(16, "NONE if it can't be got at, or one can't be.", () -> {
            s.row("of a never", Told.of(Told.CAGE)::down, -1, -1);
            s.row("with a never in it", Told.of(CutBoundaries.CAGE_AND_FREE)::down, -1, -1, 1);
            HandsOrder x = Told.of(Told.TOWER);
            s.each("down", Sentences.NEVER_PARTS, x::down, -1);
            s.due("down 3 of three", x.down(3), -1);
            s.due("down 9 of nine", Told.of(Told.parts(9)).down(9), -1);
        });
    }

    private void inOne() {
        s.holds(17, "what 0 ORDERS, 1 LEAST (NONE without).", () -> {
            HandsOrder deep = Told.of(Told.DEEP);
            s.row("a and b, which part last", what -> deep.inOne(0, 1, what), 1, 3);
            s.row("b and a", what -> deep.inOne(1, 0, what), 1, 3);
            s.row("a and c", what -> deep.inOne(0, 2, what), 0, -1);
            s.row("e and d", what -> deep.inOne(4, 3, what), 0, -1);
            s.row("two of a never", what -> Told.of(Told.CAGE).inOne(0, 1, what), 1, 0);
            s.row("one of a never and another", what -> Told.of(CutBoundaries.CAGE_AND_FREE).inOne(0, 2, what), 0, -1);
        });
        s.holds(17, "NONE if one can't be (the same), or another what.", () -> {
            HandsOrder x = Told.of(Told.TOWER);
            for (int what = 0; what < 2; what++) {
                int w = what;
                s.each("p", Sentences.NEVER_PARTS, p -> x.inOne(p, 0, w), -1);
                s.each("q", Sentences.NEVER_PARTS, q -> x.inOne(0, q, w), -1);
                s.each("the same", new int[] {0, 1, 2, 3}, p -> x.inOne(p, p, w), -1);
                s.due("p 3", x.inOne(3, 0, w), -1);
                s.due("q 3", x.inOne(0, 3, w), -1);
            }
            s.each("what", new int[] {-1, 2, 3, 32, Integer.MIN_VALUE, Integer.MAX_VALUE}, what -> x.inOne(0, 1, what), -1);
            s.due("a one", Told.of(Told.ONE_CELL).inOne(0, 0, 0), -1);
        });
        s.holds(17, "(a HEAP of just these two is a ONE; CUTS that part them are none)", () -> {
            s.due("two", Told.of(Told.TWO_CELLS).inOne(0, 1, 0), 1);
            HandsOrder x = Told.of(Told.TOWER);
            s.due("three, two in one", x.inOne(0, 2, 0), 1);
            s.due("three, all apart", x.heap(7, 2), 3);
            s.due("nine, two in one", Told.of(Told.parts(9)).inOne(0, 8, 0), 135135);
        });
        s.holds(17, "(with p and q in a ONE it costs nothing)", () -> {
            HandsOrder pole = Told.of("part pole box 3 3 0 1 1 3; part arm box 4 3 2 3 1 1;");
            pole.price(6, 99);
            s.due("two that need hands", pole.inOne(0, 1, 1), 0);
            s.due("they need them apart", pole.heap(3, 3), 199);
            HandsOrder x = Told.of(Told.TOWER);
            s.due("three", x.inOne(1, 2, 1), 1);
        });
    }

    private void view() {
        s.holds(18, "VIEW of a HALF of a HEAP from a WAY (6: THE SIDE)", () -> {
            HandsOrder x = Told.of("part a box 0 0 0 8 8 1; part b box 0 0 7 8 8 1;");
            s.row("the plate below", way -> x.view(3, 1, way), 8, 8, 8, 8, 0, 64, 5);
            s.row("the plate above", way -> x.view(3, 2, way), 8, 8, 8, 8, 64, 0, 4);
            HandsOrder cage = Told.of(Told.CAGE);
            s.row("nothing is seen", way -> cage.view(3, 1, way), 0, 0, 0, 0, 0, 0, 0);
            s.row("the cage", way -> cage.view(3, 2, way), 5, 5, 5, 5, 5, 5, 0);
        });
        s.holds(18, "(that with the greatest x for east, the least for west, and so on)", () -> {
            for (int way = 0; way < 6; way++) {
                HandsOrder x = Told.of("part a box " + Told.away(3, 3, 3, way, 3) + " 1 1 1 box 3 3 3 1 1 1; part b box " + Told.away(3, 3, 3, way, 1) + " 1 1 1;");
                s.due("the first cell is a's, from " + way, x.view(3, 1, way), 1);
                s.due("the first cell is not b's, from " + way, x.view(3, 2, way), 0);
                s.due("from the other side", x.view(3, 1, way ^ 1), 1);
                s.due("b from the other side", x.view(3, 2, way ^ 1), 0);
                HandsOrder three = Told.of("part a box 3 3 3 1 1 1; part b box " + Told.away(3, 3, 3, way, 3) + " 1 1 1; part c box 7 7 7 1 1 1;");
                s.due("a behind b", three.view(7, 1, way), 0);
                s.due("b is not of the heap", three.view(5, 1, way), 1);
                s.due("b is of the half", three.view(7, 3, way), 1);
            }
        });
        s.holds(18, "NONE if one can't be (as for cut()).", () -> {
            HandsOrder x = Told.of(Told.TOWER);
            for (int way = 0; way <= 6; way++) {
                int from = way;
                s.noHalves("view from " + way, (heap, half) -> x.view(heap, half, from));
            }
            s.each("view from", Sentences.NO_WAYS, way -> x.view(7, 1, way), -1);
        });
    }

    private void side() {
        s.holds(18, "THE SIDE: the greatest VIEW, of several the least WAY", () -> {
            StringBuilder text = new StringBuilder("part a box 3 3 3 1 1 1; part b");
            for (int hidden = 0; hidden < 6; hidden++) {
                text.append(" box ").append(Told.away(3, 3, 3, hidden, 2)).append(" 1 1 1");
                s.due("hidden from ways 0 .. " + hidden, Told.of(text + ";").view(3, 1, 6), (hidden + 1) % 6);
            }
            s.due("seen alike from all", Told.of("part a box 0 0 0 1 1 1; part b box 5 5 5 1 1 1;").view(3, 1, 6), 0);
            for (int axis = 0; axis < 3; axis++) {
                HandsOrder x = Told.of(Told.turned("part a box 0 2 2 1 2 2; part b box 4 6 6 1 1 1;", axis));
                s.due("a plate is seen best across, turned " + axis, x.view(3, 1, 6), Told.turnedWay(0, axis));
            }
        });
    }

    private void moves() {
        s.holds(19, "how many goings", () -> {
            s.due("it leaves at once", Told.of(Told.TOWER).moves(7, 2), 0);
            for (int k = 0; k < 6; k++) {
                HandsOrder x = Told.of(Told.turned(TUNNEL, k));
                s.due("a, turned " + k, x.moves(3, 1), 6);
                s.due("b, turned " + k, x.moves(3, 2), 6);
                s.due("a again, turned " + k, x.moves(3, 1), 6);
                HandsOrder bend = Told.of(Told.turned(BEND, k));
                s.due("a about a corner, turned " + k, bend.moves(3, 1), 8);
                s.due("b about a corner, turned " + k, bend.moves(3, 2), 8);
                s.due("a about a corner again, turned " + k, bend.moves(3, 1), 8);
                String nearer = BEND.replace("box 0 4 3 6 1 1", "box 0 4 3 5 1 1");
                s.due("a about a corner to a nearer hole, turned " + k, Told.of(Told.turned(nearer, k)).moves(3, 1), 7);
                String farther = BEND.replace("box 0 4 3 6 1 1", "box 0 4 3 7 1 1")
                        .replace("box 1 3 4 6 1 1", "box 1 3 4 5 1 1 box 7 3 4 1 1 1 box 6 2 4 1 1 1 box 6 3 5 1 1 1");
                s.due("a about two corners, turned " + k, Told.of(Told.turned(farther, k)).moves(3, 1), 9);
            }
        });
        s.holds(19, "NONE if it does not come out, or one can't be.", () -> {
            HandsOrder x = Told.of(CutBoundaries.CAGE_AND_FREE);
            s.due("a in its cage", x.moves(3, 1), -1);
            s.due("the cage about a", x.moves(3, 2), -1);
            s.due("a in its cage, c beside", x.moves(7, 1), -1);
            s.due("a and c", x.moves(7, 5), -1);
            s.due("c", x.moves(7, 4), 0);
            s.due("a, the cage is not of the heap", x.moves(5, 1), 0);
            HandsOrder tower = Told.of(Told.TOWER);
            s.noHalves("moves", tower::moves);
            for (int k = 0; k < 6; k++) {
                s.due("the tunnel without a hole, turned " + k, Told.of(Told.turned(TUNNEL.replace("0 4 3 6", "0 4 3 7"), k)).moves(3, 1), -1);
            }
        });
        s.holds(19, "JOINTS don't count", () -> {
            HandsOrder x = Told.of(Told.JOINED);
            s.due("the joint is not reached", x.cut(7, 1, 1), 0);
            s.due("but it moves", x.moves(7, 1), 0);
        });
    }

    private void movesFar() {
        s.holds(19, "(at most 8 away from where it was in x, y, z)", () -> {
            for (int k = 0; k < 6; k++) {
                s.due("as far as need be, turned " + k, Told.of(Told.turned(TUNNEL, k)).moves(3, 1), 6);
            }
            // eight cells long, so that it is out at eight cells from where it was
            String rod = "part a box 0 3 3 8 1 1; part b box 0 4 3 8 1 1 box 0 2 3 8 1 1 box 0 3 4 8 1 1 box 0 3 2 8 1 1";
            for (int k = 0; k < 6; k++) {
                s.due("a rod in a tube, turned " + k, Told.of(Told.turned(rod + ";", k)).moves(3, 1), 0);
                s.due("a tube on a rod, turned " + k, Told.of(Told.turned(rod + ";", k)).moves(3, 2), 0);
            }
        });
        s.holds(19, "none of its CELLS ever where the rest has one", () -> {
            // on its way to the hole stands one cell that is as thick as a wall can be
            for (int k = 0; k < 6; k++) {
                s.due("a wall, turned " + k, Told.of(Told.turned(TUNNEL.replace("box 7 3 3", "box 3 3 3"), k)).moves(3, 1), -1);
            }
        });
        s.holds(19, "(moved by 1, 2, .. that WAY it comes to no CELL of the rest)", () -> {
            // a could leave eastwards at once but for the last cell of its way
            String late = "part a box 0 0 0 1 1 1 box 3 3 3 1 1 1; part b box 7 0 0 1 1 1 box 2 3 3 1 1 1 box 3 4 3 1 1 1 box 3 2 3 1 1 1 box 3 3 4 1 1 1"
                    + " box 3 3 2 1 1 1;";
            for (int k = 0; k < 6; k++) {
                s.due("a, turned " + k, Told.of(Told.turned(late, k)).moves(3, 1), 1);
                s.due("b, turned " + k, Told.of(Told.turned(late, k)).moves(3, 2), 1);
                s.due("without that cell, turned " + k, Told.of(Told.turned(late.replace("box 7 0 0 1 1 1 ", ""), k)).moves(3, 1), 0);
            }
            // a can leave beyond the edge alone, and b stands where it would come in again on the other side
            for (int k = 0; k < CutBoundaries.AROUND.length; k++) {
                StringBuilder text = new StringBuilder("part a box " + CutBoundaries.AROUND[k][0] + " 1 1 1; part b box " + CutBoundaries.AROUND[k][1] + " 1 1 1");
                String[] at = CutBoundaries.AROUND[k][0].split(" ");
                for (int way = 0; way < 6; way++) {
                    String wall = Told.away(Integer.parseInt(at[0]), Integer.parseInt(at[1]), Integer.parseInt(at[2]), way, 1);
                    if (wall.matches("[0-7] [0-7] [0-7]")) {
                        text.append(" box ").append(wall).append(" 1 1 1");
                    }
                }
                s.due("beyond the edge, " + text, Told.of(text + ";").moves(3, 1), 0);
            }
            // one cell of a goes north in a pit and then west, the other one beyond the edge at 0 1 0, which is next to 7 0 0 if rows followed on one another
            String corner = "part a box 0 0 0 1 1 1 box 3 3 3 1 1 1; part b box 7 0 0 1 1 1 box 4 3 3 1 2 1 box 2 3 3 1 1 1 box 3 2 3 1 1 1"
                    + " box 3 5 3 1 1 1 box 3 3 4 1 2 1 box 3 3 2 1 2 1;";
            for (int k = 0; k < 6; k++) {
                s.due("beyond the edge behind a corner, turned " + k, Told.of(Told.turned(corner, k)).moves(3, 1), 1);
            }
        });
    }
}
