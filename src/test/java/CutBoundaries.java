/** Promises 7 to 13: who bars whom, prices, bent parts, cuts, heaps, the net and the plan. */
final class CutBoundaries {
    /** A cell at the edge, the way out of it, and a cell to which it would come if rows or planes followed on one another. */
    static final String[][] AROUND = {{"7 3 3", "0 4 3"}, {"7 3 3", "0 3 3"}, {"7 7 3", "0 0 4"}, {"0 3 3", "7 2 3"}, {"0 3 3", "7 3 3"}, {"0 0 3", "7 7 2"},
        {"3 7 3", "3 0 4"}, {"3 7 3", "3 0 3"}, {"3 0 3", "3 7 2"}, {"3 0 3", "3 7 3"}, {"3 3 7", "3 3 0"}, {"3 3 0", "3 3 7"}};
    static final int[] WAYS_AROUND = {0, 0, 0, 1, 1, 1, 2, 2, 3, 3, 4, 5};
    /** The arm floats beside the pole and makes it tip: two hands. */
    static final String POLE = "part pole box 3 3 0 1 1 3; part arm box 4 3 2 3 1 1;";
    /** The cage, and a part beside it that can go. */
    static final String CAGE_AND_FREE = Told.CAGE + " part c box 0 0 0 1 1 1;";
    static final String FREE_AND_CAGE = "part c box 0 0 0 1 1 1; " + Told.CAGE;

    private final Sentences s;

    CutBoundaries(Sentences s) {
        this.s = s;
    }

    void test() {
        bars();
        price();
        bent();
        cut();
        joints();
        heap();
        hands();
        net();
        plan();
    }

    private void bars() {
        s.holds(7, "Which PARTS BAR p on a WAY, as a set", () -> {
            HandsOrder x = Told.of("part a box 0 0 0 1 8 1;" + Told.parts(8).substring(Told.ONE_CELL.length()) + "part i box 1 1 0 1 1 1;");
            s.row("bars a", way -> x.bars(0, way), 510, 0, 0, 0, 0, 0);
            s.row("bars h", way -> x.bars(7, way), 0, 127, 0, 0, 0, 0);
            s.row("bars i", way -> x.bars(8, way), 0, 1, 0, 2, 0, 0);
            s.row("bars b", way -> x.bars(1, way), 252, 1, 256, 0, 0, 0);
            s.row("a part alone", way -> Told.of(Told.ONE_CELL).bars(0, way), 0, 0, 0, 0, 0, 0);
        });
        s.holds(7, "some CELL of p, moved by 1, 2, .. that WAY, comes to a CELL of q (another one)", () -> {
            for (int way = 0; way < 6; way++) {
                int edge = way % 2 == 0 ? 0 : 7;
                for (int far = 1; far < 8; far++) {
                    HandsOrder x = Told.of(Told.part("a", Told.spot(edge, edge, edge)) + Told.part("b", Told.away(edge, edge, edge, way, far)));
                    for (int other = 0; other < 6; other++) {
                        s.due("bars a on " + other + ", b is on " + way, x.bars(0, other), other == way ? 2 : 0);
                        s.due("bars b on " + other + ", a is behind " + way, x.bars(1, other), other == (way ^ 1) ? 1 : 0);
                    }
                }
            }
            for (int k = 0; k < AROUND.length; k++) {
                HandsOrder x = Told.of(Told.part("a", AROUND[k][0]) + Told.part("b", AROUND[k][1]));
                s.due("beyond the edge, bars " + AROUND[k][0] + " " + AROUND[k][1], x.bars(0, WAYS_AROUND[k]), 0);
            }
            HandsOrder own = Told.of("part a box 0 0 0 1 1 1 box 2 0 0 1 1 1; part b box 4 0 0 1 1 1;");
            s.due("its own cells", own.bars(0, 0), 2);
            s.due("its own cells alone", own.bars(0, 1), 0);
        });
        s.holds(7, "NONE if one can't be", () -> {
            HandsOrder x = Told.of(Told.TOWER);
            s.each("bars of part", Sentences.NEVER_PARTS, p -> x.bars(p, 0), -1);
            s.each("bars on way", Sentences.NO_WAYS, way -> x.bars(0, way), -1);
            s.due("bars of part 3", x.bars(3, 0), -1);
            s.due("bars on way 6", x.bars(0, 6), -1);
            s.due("neither", x.bars(3, 6), -1);
            s.due("bars of part 9 of nine", Told.of(Told.parts(9)).bars(9, 0), -1);
        });
    }

    private void price() {
        s.holds(8, "PRICE of a WAY (6: of a HAND): true", () -> {
            HandsOrder x = new HandsOrder();
            for (int way = 0; way <= 6; way++) {
                s.due("price " + way + " 99", x.price(way, 99), true);
                s.due("price " + way + " 99 again", x.price(way, 99), true);
                s.due("price " + way + " 0", x.price(way, 0), true);
            }
            s.due("thing", Told.thing(x, POLE), 2);
            s.due("all costs nothing", x.heap(3, 3), 0);
            x.price(6, 1);
            s.due("but the hands", x.heap(3, 3), 2);
            HandsOrder east = Told.of(Told.TWO_CELLS);
            for (int way = 1; way < 6; way++) {
                east.price(way, 9);
            }
            east.price(0, 0);
            s.due("b goes east", east.heap(3, 3), 0);
            s.row("b goes east", what -> east.plan(0, what), 3, 2, 0);
        });
        s.holds(8, "false if one can't be", () -> {
            for (int axis = 0; axis < 3; axis++) {
                HandsOrder x = Told.of(Told.tube(axis));
                int way = 2 * axis;
                x.price(way, 5);
                x.price(way + 1, 5);
                s.each("price", new int[] {-1, 100, 101, 256, Integer.MIN_VALUE, Integer.MAX_VALUE}, v -> Sentences.of(x.price(way, v)), 0);
                s.due("nothing is changed", x.heap(3, 3), 5);
            }
            HandsOrder x = Told.of(POLE);
            s.each("price of way", Sentences.NO_WAYS, way -> Sentences.of(x.price(way, 0)), 0);
            s.each("price of way, both", Sentences.NO_WAYS, way -> Sentences.of(x.price(way, 100)), 0);
            s.due("price of a hand 100", x.price(6, 100), false);
            s.due("price of a hand -1", x.price(6, -1), false);
            s.due("nothing is changed", x.heap(3, 3), 1);
        });
        s.holds(8, "PRICES of WAYS (1 at first), of a HAND (0 at first), 0 .. 99", () -> {
            for (int axis = 0; axis < 3; axis++) {
                HandsOrder x = Told.of(Told.tube(axis));
                s.due("at first", x.heap(3, 3), 1);
                x.price(2 * axis, 99);
                s.due("the other way at first", x.heap(3, 3), 1);
                x.price(2 * axis + 1, 99);
                s.due("the dearest", x.heap(3, 3), 99);
                x.price(2 * axis + 1, 0);
                s.due("the cheapest", x.heap(3, 3), 0);
                HandsOrder back = Told.of(Told.tube(axis));
                back.price(2 * axis + 1, 99);
                s.due("the one way at first", back.heap(3, 3), 1);
            }
            HandsOrder x = Told.of(POLE);
            s.due("hands", x.heap(3, 5), 2);
            s.due("two hands that cost nothing", x.heap(3, 3), 1);
            for (int way = 0; way <= 6; way++) {
                x.price(way, 99);
            }
            s.due("two hands that cost most", x.heap(3, 3), 297);
        });
    }

    private void bent() {
        s.holds(9, "A PART is BENT or not from now on: true", () -> {
            HandsOrder x = Told.of(Told.parts(9));
            for (int p = 0; p < 9; p++) {
                s.due("bent " + p, x.bent(p, true), true);
            }
            s.due("all are bent", x.bars(1, 0), 0);
            s.due("straight", x.bent(8, false), true);
            s.due("a straight one among bent ones", x.bars(8, 3), 0);
            s.due("two straight ones", x.bent(0, false), true);
            s.due("bar one another", x.bars(8, 3), 1);
        });
        s.holds(9, "false if there is none such", () -> {
            HandsOrder x = Told.of(Told.TOWER);
            s.each("bent", Sentences.NEVER_PARTS, p -> Sentences.of(x.bent(p, true)), 0);
            s.each("not bent", Sentences.NEVER_PARTS, p -> Sentences.of(x.bent(p, false)), 0);
            s.due("bent 3", x.bent(3, true), false);
            s.due("not bent 3", x.bent(3, false), false);
            s.row("nobody was bent", p -> x.bars(p, 4), 6, 4, 0);
            s.due("bent 9 of nine", Told.of(Told.parts(9)).bent(9, true), false);
        });
        s.holds(9, "or it is so", () -> {
            HandsOrder x = Told.of(Told.TOWER);
            s.due("not bent at first", x.bent(1, false), false);
            s.due("bars then", x.bars(0, 4), 6);
            s.due("bent", x.bent(1, true), true);
            s.due("bent again", x.bent(1, true), false);
            s.due("bars then", x.bars(0, 4), 4);
            s.due("straight", x.bent(1, false), true);
            s.due("straight again", x.bent(1, false), false);
            s.due("bars then", x.bars(0, 4), 6);
        });
        s.holds(9, "then it BARS nobody and nobody BARS it", () -> {
            HandsOrder x = Told.of(Told.CAGE);
            x.bent(0, true);
            s.row("bars a", way -> x.bars(0, way), 0, 0, 0, 0, 0, 0);
            s.row("bars b", way -> x.bars(1, way), 0, 0, 0, 0, 0, 0);
            s.due("orders", x.heap(3, 2), 1);
            x.bent(1, true);
            s.due("orders, both bent", x.heap(3, 2), 1);
            x.bent(0, false);
            s.due("orders, the other bent", x.heap(3, 2), 1);
            s.due("the net then", x.net(0), 3);
            x.bent(1, false);
            s.due("orders, none bent", x.heap(3, 2), 0);
            s.due("the net, none bent", x.net(0), 1);
            s.due("time, none bent", x.time(3, 0), -1);
            x.bent(0, true);
            s.due("time, a bent", x.time(3, 0), 0);
        });
        s.holds(9, "its CELLS stay as they are for JOINTS, HANDS, VIEW and MOVES", () -> {
            HandsOrder joined = Told.of(Told.JOINED);
            joined.bent(2, true);
            s.due("the joint below c", joined.cut(7, 1, 1), 0);
            HandsOrder pole = Told.of(POLE);
            pole.bent(1, true);
            s.due("hands", pole.heap(3, 5), 2);
            HandsOrder tower = Told.of(Told.TOWER);
            tower.bent(1, true);
            s.due("c lies on b", tower.holding(7), 0);
            HandsOrder cage = Told.of(Told.CAGE);
            cage.bent(0, true);
            cage.bent(1, true);
            s.row("view", way -> cage.view(3, 1, way), 0, 0, 0, 0, 0, 0);
            s.due("moves", cage.moves(3, 1), -1);
            s.due("its cell", cage.cell(3, 3, 3), 0);
        });
    }

    private void cut() {
        s.holds(10, "Whether a CUT of a HEAP is GOOD: 1; 0: it is not", () -> {
            HandsOrder x = Told.of(Told.TOWER);
            s.row("a", way -> x.cut(7, 1, way), 1, 1, 1, 1, 0, 1);
            s.row("b", way -> x.cut(7, 2, way), 1, 1, 1, 1, 0, 0);
            s.row("c", way -> x.cut(7, 4, way), 1, 1, 1, 1, 1, 0);
            s.row("a and b", way -> x.cut(7, 3, way), 1, 1, 1, 1, 0, 1);
            HandsOrder cage = Told.of(Told.CAGE);
            s.row("a in its cage", way -> cage.cut(3, 1, way), 0, 0, 0, 0, 0, 0);
        });
        s.holds(10, "NONE if one can't be (the HALF is empty, all, or not of the HEAP)", () -> {
            HandsOrder x = Told.of(Told.TOWER);
            s.noHalves("cut", (heap, half) -> x.cut(heap, half, 0));
            s.each("cut on way", Sentences.NO_WAYS, way -> x.cut(7, 1, way), -1);
            s.due("cut on way 6", x.cut(7, 1, 6), -1);
            HandsOrder nine = Told.of(Told.parts(9));
            s.due("the greatest half of nine", nine.cut(511, 510, 4), 1);
            s.due("all of nine", nine.cut(511, 511, 4), -1);
            s.due("more than nine", nine.cut(1023, 1, 4), -1);
        });
        s.holds(10, "if no other PART of the HEAP BARS one of the HALF", () -> {
            HandsOrder x = Told.of(Told.TOWER);
            s.due("c is not of the heap", x.cut(3, 2, 4), 1);
            s.due("c goes with it", x.cut(7, 6, 4), 1);
            s.due("b and a, c above", x.cut(7, 3, 4), 0);
            s.due("a and c, b between", x.cut(7, 5, 4), 0);
            s.due("b is not of the heap", x.cut(5, 1, 4), 0);
        });
        s.holds(10, "A HEAP is a set of PARTS that are together, not empty", () -> {
            HandsOrder x = Told.of(Told.TOWER);
            s.due("heap 0", x.cut(0, 0, 0), -1);
            s.due("heap 0 with a half", x.cut(0, 1, 0), -1);
            s.due("two are the least", x.cut(3, 1, 5), 1);
            s.due("one is too few", x.cut(2, 2, 5), -1);
        });
    }

    private void joints() {
        String pair = "part a box 5 5 5 1 1 1; part b box 6 5 5 1 1 1; part c box ";
        s.holds(10, "A JOINT is REACHED in a HEAP, if from its CELL on (without it) no CELL that WAY has a PART of the HEAP", () -> {
            for (int way = 0; way < 6; way++) {
                int edge = way % 2 == 0 ? 0 : 7;
                String joint = " 1 1 1; joint a b " + edge + " " + edge + " " + edge + " " + Model.WAYS.get(way) + ";";
                for (int far = 0; far < 8; far++) {
                    HandsOrder x = Told.of(pair + Told.away(edge, edge, edge, way, far) + joint);
                    s.due("c is " + far + " from the joint on " + way, x.cut(7, 1, 4), far == 0 ? 1 : 0);
                    s.due("c is not of the heap", x.cut(3, 1, 4), 1);
                }
            }
            coveredFrom(1, 2, 4);
            coveredFrom(6, 5, 3);
            HandsOrder self = Told.of("part a box 0 0 0 1 1 1 box 0 0 7 1 1 1; part b box 1 0 0 1 1 1; joint a b 0 0 0 up;");
            s.due("a cell of the joint's own part", self.cut(3, 1, 1), 0);
        });
        s.holds(10, "no CELL that WAY has a PART of the HEAP", () -> {
            for (int k = 0; k < AROUND.length; k++) {
                HandsOrder x = Told.of(pair + AROUND[k][1] + " 1 1 1; joint a b " + AROUND[k][0] + " " + Model.WAYS.get(WAYS_AROUND[k]) + ";");
                s.due("beyond the edge, joint " + AROUND[k][0] + ", c " + AROUND[k][1], x.cut(7, 1, 4), 1);
            }
        });
        s.holds(10, "all JOINTS of one PART in the HALF and one in the rest are REACHED in the HEAP", () -> {
            HandsOrder x = Told.of(Told.JOINED);
            s.due("one in the half, one in the rest", x.cut(7, 1, 1), 0);
            s.due("the other way about", x.cut(7, 6, 0), 0);
            s.due("both in the half", x.cut(7, 3, 0), 1);
            s.due("both in the rest", x.cut(7, 4, 0), 1);
            s.due("one is not of the heap", x.cut(5, 1, 1), 1);
            HandsOrder last = Told.of(Told.TWO_CELLS + "part c box 0 0 3 1 1 1;" + "joint b a 7 7 7 up;".repeat(7) + "joint a b 0 0 0 up;");
            s.due("the last of eight", last.cut(7, 1, 1), 0);
            s.due("the last of eight, without c", last.cut(3, 1, 1), 1);
        });
    }

    /** Nobody bars anybody, so that the cut is good if the joint is reached; c stands at each cell once. */
    private void coveredFrom(int x, int y, int z) {
        for (int way = 0; way < 6; way++) {
            for (int n = 0; n < 512; n++) {
                int[] c = {n % 8 - x, n / 8 % 8 - y, n / 64 - z};
                int far = way % 2 == 0 ? c[way / 2] : -c[way / 2];
                c[way / 2] = 0;
                HandsOrder thing = new HandsOrder();
                String joint = "joint a b " + Told.spot(x, y, z) + " " + Model.WAYS.get(way) + ";";
                int parts = Told.thing(thing, Told.part("a", "0 0 0") + Told.part("b", "7 7 7") + Told.part("c", Told.spot(n % 8, n / 8 % 8, n / 64)) + joint);
                for (int p = 0; p < parts; p++) {
                    thing.bent(p, true);
                }
                boolean covers = far > 0 && c[0] == 0 && c[1] == 0 && c[2] == 0;
                s.due("joint " + x + " " + y + " " + z + " on " + way + ", c at " + n, thing.cut(7, 1, 0), parts < 0 ? -1 : covers ? 0 : 1);
            }
        }
    }

    private void heap() {
        s.holds(11, "Of a HEAP what 0 1 if it is in THE NET, else 0", () -> {
            HandsOrder x = Told.of(CAGE_AND_FREE);
            s.row("heap in the net", heap -> x.heap(heap + 1, 0), 0, 0, 1, 1, 0, 0, 1);
            HandsOrder free = Told.of(Told.parts(9));
            for (int heap = 1; heap < 512; heap++) {
                s.due("heap " + heap + " of nine free ones", free.heap(heap, 0), 1);
            }
        });
        s.holds(11, "1 in how many partings of it some CUT is GOOD", () -> {
            s.due("of a one", Told.of(Told.TOWER).heap(2, 1), 0);
            s.due("of two", Told.of(Told.TOWER).heap(3, 1), 1);
            s.due("of three", Told.of(Told.TOWER).heap(7, 1), 3);
            s.due("of nine", Told.of(Told.parts(9)).heap(511, 1), 255);
            s.due("of a never", Told.of(Told.CAGE).heap(3, 1), 0);
        });
        s.holds(11, "2 ORDERS", () -> {
            s.due("of a one", Told.of(Told.TOWER).heap(4, 2), 1);
            s.due("of two", Told.of(Told.TOWER).heap(6, 2), 1);
            s.due("of a never", Told.of(Told.CAGE).heap(3, 2), 0);
            s.due("of a one in a never", Told.of(Told.CAGE).heap(1, 2), 1);
            s.due("with a never in it", Told.of(CAGE_AND_FREE).heap(7, 2), 0);
            s.due("of nine", Told.of(Told.parts(9)).heap(511, 2), 2027025);
        });
        s.holds(11, "3 LEAST (NONE without)", () -> {
            HandsOrder x = Told.of(CAGE_AND_FREE);
            s.row("least", heap -> x.heap(heap + 1, 3), 0, 0, -1, 0, 1, 1, -1);
            HandsOrder first = Told.of(FREE_AND_CAGE);
            s.row("least, the free one first", heap -> first.heap(heap + 1, 3), 0, 0, 1, 0, 1, -1, -1);
            x.price(0, 0);
            s.due("a step that costs nothing", x.heap(6, 3), 0);
            s.due("a one", Told.of(Told.ONE_CELL).heap(1, 3), 0);
            s.due("nine", Told.of(Told.parts(9)).heap(511, 3), 8);
        });
        s.holds(11, "4 ROUNDS (NONE without)", () -> {
            HandsOrder x = Told.of(CAGE_AND_FREE);
            s.row("rounds", heap -> x.heap(heap + 1, 4), 0, 0, -1, 0, 1, 1, -1);
            HandsOrder first = Told.of(FREE_AND_CAGE);
            s.row("rounds, the free one first", heap -> first.heap(heap + 1, 4), 0, 0, 1, 0, 1, -1, -1);
            s.row("rounds of 1, 2, ..", n -> Told.of(Told.parts(n + 1)).heap((2 << n) - 1, 4), 0, 1, 2, 2, 3, 3, 3, 3, 4);
        });
        s.holds(11, "7 1 if it is LIVE, else 0", () -> {
            HandsOrder x = Told.of(CAGE_AND_FREE);
            s.row("live", heap -> x.heap(heap + 1, 7), 0, 0, 0, 0, 0, 0, 0);
            HandsOrder corners = Told.of(Told.CORNERS);
            s.row("corners", heap -> corners.heap(heap + 1, 7), 1, 1, 1, 1, 0, 0, 0, 1, 0, 0, 0, 1, 0, 0, 1);
            x.bent(0, true);
            s.row("live then", heap -> x.heap(heap + 1, 7), 1, 1, 1, 1, 1, 1, 1);
            s.due("a one alone", Told.of(Told.ONE_CELL).heap(1, 7), 1);
        });
        s.holds(11, "NONE if there is none such, or another what.", () -> {
            HandsOrder x = Told.of(Told.TOWER);
            for (int what = 0; what < 8; what++) {
                int w = what;
                s.each("what " + w + " of heap", Sentences.NEVER_HEAPS, heap -> x.heap(heap, w), -1);
                s.each("what " + w + " of heap", new int[] {8, 9, 15, 23}, heap -> x.heap(heap, w), -1);
            }
            s.each("heap 7 what", new int[] {-1, 8, 9, 32, 64, Integer.MIN_VALUE, Integer.MAX_VALUE}, what -> x.heap(7, what), -1);
            s.each("heap 8 what", new int[] {-1, 8}, what -> x.heap(8, what), -1);
            s.due("heap 1 without a thing", new HandsOrder().heap(1, 2), -1);
        });
    }

    private void hands() {
        s.holds(11, "5 HANDS", () -> {
            HandsOrder x = Told.of(POLE);
            s.row("hands", heap -> x.heap(heap + 1, 5), 0, 0, 2);
            s.due("tower", Told.of(Told.TOWER).heap(7, 5), 0);
            s.due("the cage", Told.of(Told.CAGE).heap(3, 5), 0);
            String many = "part a box 3 3 0 2 2 1; part b box 0 0 2 1 1 1; part c box 7 0 2 1 1 1; part d box 0 7 2 1 1 1; part e box 7 7 2 1 1 1;"
                    + " part f box 0 0 4 1 1 1; part g box 7 0 4 1 1 1; part h box 0 7 4 1 1 1; part i box 7 7 4 1 1 1;";
            s.due("eight that float", Told.of(many).heap(511, 5), 8);
            HandsOrder floor = Told.of(Told.parts(4));
            for (int heap = 1; heap < 16; heap++) {
                s.due("all stand on the floor, heap " + heap, floor.heap(heap, 5), 0);
            }
            HandsOrder next = Told.of(POLE);
            next.heap(3, 5);
            Told.thing(next, Told.TOWER);
            s.due("behind another thing", next.heap(3, 5), 0);
        });
        s.holds(11, "its FLOOR is the least z of its CELLS", () -> {
            HandsOrder x = Told.of("part a box 0 0 0 1 1 1; part b box 0 0 5 1 1 1; part c box 0 0 7 1 1 1;");
            s.row("hands", heap -> x.heap(heap + 1, 5), 0, 0, 1, 0, 1, 1, 2);
            s.row("tips", heap -> x.heap(heap + 1, 6), 0, 0, 0, 0, 0, 0, 0);
        });
        s.holds(11, "or one right above a CELL of another PART of the HEAP that RESTS", () -> {
            s.due("right above", Told.of("part a box 0 0 0 1 1 1; part b box 0 0 1 1 1 1;").heap(3, 5), 0);
            s.due("a gap", Told.of("part a box 0 0 0 1 1 1; part b box 0 0 2 1 1 1;").heap(3, 5), 1);
            s.due("beside", Told.of("part a box 0 0 0 2 1 1; part b box 2 0 1 1 1 1 box 0 0 2 1 1 1;").heap(3, 5), 1);
            s.due("above its own cell", Told.of("part a box 0 0 0 2 1 1; part b box 0 0 2 1 1 2;").heap(3, 5), 1);
            HandsOrder tower = Told.of(Told.TOWER);
            s.due("what is between is not of the heap", tower.heap(5, 5), 1);
            HandsOrder chain = Told.of("part c box 0 0 2 1 1 1; part b box 0 0 1 1 1 1; part a box 0 0 0 1 1 1;");
            s.due("one on the other, told from above", chain.heap(7, 5), 0);
            s.due("at the greatest z", Told.of("part a box 0 0 0 1 1 7; part b box 0 0 7 1 1 1;").heap(3, 5), 0);
        });
        s.holds(11, "and 1 more, if it TIPS", () -> {
            s.due("it tips alone", Told.of("part a box 0 0 0 1 1 1 box 1 0 1 1 1 2;").heap(1, 5), 1);
            s.due("held and tips", Told.of(POLE).heap(3, 5), 2);
            s.due("neither", Told.of(Told.ONE_CELL).heap(1, 5), 0);
        });
        s.holds(11, "6 1 if it TIPS, else 0", () -> {
            HandsOrder x = Told.of(POLE);
            s.row("tips", heap -> x.heap(heap + 1, 6), 0, 0, 1);
        });
        s.holds(11, "is below 2 n times the least x of its CELLS on the FLOOR, or above 2 n times 1 more than the greatest; likewise for y", () -> {
            // the second cell lies just so that it stands, the third makes it tip
            String[] feet = {"box 0 0 0 1 1 1 box 1 0 1 1 1 1", "box 1 0 0 1 1 1 box 0 0 1 1 1 1", "box 7 0 0 1 1 1 box 6 0 1 1 1 1", "box 6 0 0 1 1 1 box 7 0 1 1 1 1",
                "box 0 0 0 1 1 1 box 0 1 1 1 1 1", "box 0 1 0 1 1 1 box 0 0 1 1 1 1", "box 0 7 0 1 1 1 box 0 6 1 1 1 1", "box 0 6 0 1 1 1 box 0 7 1 1 1 1"};
            for (String foot : feet) {
                s.due("stands: " + foot, Told.of("part a " + foot + ";").heap(1, 6), 0);
                s.due("tips: " + foot, Told.of("part a " + foot.substring(0, foot.length() - 1) + "2;").heap(1, 6), 1);
            }
            s.due("the floor from its least to its greatest", Told.of("part a box 0 0 0 1 1 1 box 7 0 0 1 1 1 box 3 0 1 2 1 7;").heap(1, 6), 0);
            s.due("likewise for y", Told.of("part a box 0 0 0 1 1 1 box 0 7 0 1 1 1 box 0 3 1 1 2 7;").heap(1, 6), 0);
            s.due("all cells", Told.of("part a box 0 0 0 8 8 8;").heap(1, 6), 0);
            s.due("without the highest cell", Told.of("part a box 1 1 0 1 1 1 box 2 1 6 1 1 1;").heap(1, 6), 0);
            s.due("the highest cell", Told.of("part a box 1 1 0 1 1 1 box 2 1 6 1 1 2;").heap(1, 6), 1);
            s.due("the highest cell in y", Told.of("part a box 1 1 0 1 1 1 box 1 2 6 1 1 2;").heap(1, 6), 1);
        });
    }

    private void net() {
        s.holds(12, "What 0 HEAPS of THE NET, 1 LIVE ones, 2 NEVERS in THE NET", () -> {
            HandsOrder cage = Told.of(Told.CAGE);
            s.row("a never alone", cage::net, 1, 0, 1, 2, 0, 3);
            HandsOrder x = Told.of(CAGE_AND_FREE);
            s.row("a never beside a free one", x::net, 3, 0, 1, 3, 0, 7);
            HandsOrder one = Told.of(Told.ONE_CELL);
            s.row("a one is no never", one::net, 1, 1, 0, 1, 0, 1);
            HandsOrder nine = Told.of(Told.parts(9));
            s.row("nine free ones", nine::net, 511, 511, 0, 9, 0, 511);
        });
        s.holds(12, "4 JOINTS", () -> {
            for (int n = 0; n <= 8; n++) {
                s.due(n + " joints", Told.of(Told.TWO_CELLS + Told.joints(n)).net(4), n);
            }
        });
        s.holds(12, "NEVER is a HEAP of two and more without a GOOD CUT", () -> {
            HandsOrder x = Told.of(Told.TWO_CELLS + "joint a b 0 0 0 up; part c box 0 0 1 1 2 1 box 1 1 0 1 1 1;");
            s.due("c can leave", x.net(2), 0);
            HandsOrder two = Told.of(Told.TWO_CELLS + "joint a b 0 0 0 east;");
            s.row("a joint that is never reached", two::net, 1, 0, 1, 2, 1, 3);
        });
        s.holds(12, "5 THE WHOLE (0 without a THING)", () -> {
            s.due("without a thing", new HandsOrder().net(5), 0);
            s.due("of an empty text", Told.of("").net(5), 0);
            for (int n = 1; n <= 9; n++) {
                s.due("of " + n, Told.of(Told.parts(n)).net(5), (1 << n) - 1);
            }
            HandsOrder x = Told.of(Told.TOWER);
            Told.thing(x, "");
            s.row("behind an empty text", x::net, 0, 0, 0, 0, 0, 0);
        });
        s.holds(12, "NONE for another what.", () -> {
            HandsOrder x = Told.of(Told.TOWER);
            s.each("net", new int[] {-1, 6, 7, 32, Integer.MIN_VALUE, Integer.MAX_VALUE}, x::net, -1);
            s.each("net without a thing", new int[] {-1, 6}, new HandsOrder()::net, -1);
        });
    }

    private void plan() {
        s.holds(13, "CUT k (from 0) of THE PLAN: what 0 the HEAP, 1 the HALF, 2 the WAY.", () -> {
            HandsOrder x = Told.of(Told.parts(9));
            for (int k = 0; k < 8; k++) {
                int cut = k;
                s.row("cut " + k + " of eight", what -> x.plan(cut, what), 511 & -1 << k, 1 << k, k == 7 ? 0 : 1);
            }
        });
        s.holds(13, "NONE if there is none such, or another what.", () -> {
            HandsOrder x = Told.of(Told.parts(9));
            s.each("plan", new int[] {-1, 8, 9, 32, Integer.MIN_VALUE, Integer.MAX_VALUE}, k -> x.plan(k, 0), -1);
            s.each("plan 0 what", new int[] {-1, 3, 4, 32, Integer.MIN_VALUE, Integer.MAX_VALUE}, what -> x.plan(0, what), -1);
            s.each("plan 7 what", new int[] {-1, 3}, what -> x.plan(7, what), -1);
            s.row("three have two cuts", k -> Told.of(Told.TOWER).plan(k, 0), 7, 6, -1, -1);
            s.due("a one has no cut", Told.of(Told.ONE_CELL).plan(0, 0), -1);
            s.row("without an order", what -> Told.of(Told.CAGE).plan(0, what), -1, -1, -1);
            s.row("without an order, though one can go", what -> Told.of(CAGE_AND_FREE).plan(0, what), -1, -1, -1);
            s.due("of an empty text", Told.of("").plan(0, 0), -1);
        });
        s.holds(13, "of several CUTS the one with the least HALF (as a number), then WAY", () -> {
            HandsOrder x = Told.of("part a box 0 0 0 1 1 1; part b box 2 2 2 1 1 1; part c box 4 4 4 1 1 1;");
            s.row("all are free", what -> x.plan(0, what), 7, 1, 0);
            s.row("all are free, then", what -> x.plan(1, what), 6, 2, 0);
            x.price(0, 1);
            x.price(5, 0);
            s.row("down is cheaper", what -> x.plan(0, what), 7, 1, 5);
            x.price(1, 0);
            s.row("west is as cheap", what -> x.plan(0, what), 7, 1, 1);
        });
        s.holds(13, "of a HEAP first its own, then those of the HALF, then those of the rest", () -> {
            HandsOrder x = Told.of(Told.CORNERS);
            s.row("the heaps", k -> x.plan(k, 0), 15, 3, 12, -1);
            s.row("the halves", k -> x.plan(k, 1), 3, 1, 4, -1);
            HandsOrder deep = Told.of(Told.DEEP);
            s.row("the heaps of halves in halves", k -> deep.plan(k, 0), 31, 15, 7, 3, -1);
            s.row("the halves in halves", k -> deep.plan(k, 1), 15, 7, 3, 1, -1);
        });
    }
}
