/** Promises 20 to 27: taking apart, swollen parts, what is held, and orders one by one. */
final class ApartBoundaries {
    /** Three cells that can go on all ways; c stands east of the cell that is north of b. */
    private static final String APART = "part a box 7 7 7 1 1 1; part b box 0 0 0 1 1 1; part c box 3 1 0 1 1 1;";
    /** Each of a and b lies on the other one, and f alone stands on the floor. */
    static final String HUG = "part f box 0 0 0 1 1 1; part a box 2 0 3 3 1 1; part b box 2 0 2 1 1 1 box 4 0 4 1 1 1;";

    private final Sentences s;

    ApartBoundaries(Sentences s) {
        this.s = s;
    }

    void test() {
        apart();
        refusedApart();
        where();
        together();
        swollen();
        swollenCells();
        safe();
        safePlan();
        safeCut();
        holding();
        oneByOne();
    }

    private void heapsAre(HandsOrder x, long... heaps) {
        s.row("where", x::where, heaps);
    }

    private void apart() {
        s.holds(20, "a CUT: how many HEAPS there are then", () -> {
            HandsOrder x = Told.of(Told.parts(9));
            for (int p = 0; p < 8; p++) {
                s.due("cut " + p, x.apart(1 << p, 4), p + 2);
            }
            for (int p = 0; p < 9; p++) {
                s.due("where " + p, x.where(p), 1 << p);
                s.due("a one can't be cut", x.apart(1 << p, 4), -1);
            }
            s.due("two are the fewest", Told.of(Told.TWO_CELLS).apart(1, 1), 2);
        });
        s.holds(20, "at first (and behind each text that is taken) THE WHOLE is one HEAP", () -> {
            HandsOrder x = Told.of(Told.TOWER);
            heapsAre(x, 7, 7, 7, -1);
            x.apart(1, 0);
            x.apart(2, 0);
            heapsAre(x, 1, 2, 4, -1);
            Told.thing(x, Told.TOWER + "#");
            heapsAre(x, 1, 2, 4, -1);
            Told.thing(x, Told.TOWER);
            heapsAre(x, 7, 7, 7, -1);
            s.due("no cuts there were", x.together(), 0);
            x.apart(1, 0);
            Told.thing(x, Told.parts(9));
            heapsAre(x, 511, 511, 511, 511, 511, 511, 511, 511, 511, -1);
            Told.thing(x, Told.ONE_CELL);
            heapsAre(x, 1, -1, -1);
        });
        s.holds(20, "A CUT parts the HEAP in which its HALF lies", () -> {
            HandsOrder x = Told.of(Told.CORNERS);
            s.due("the pairs", x.apart(12, 4), 2);
            heapsAre(x, 3, 3, 12, 12);
            s.due("the second pair", x.apart(8, 0), 3);
            heapsAre(x, 3, 3, 4, 8);
            s.due("the first pair, whose joint is reached now", x.apart(1, 1), 4);
            heapsAre(x, 1, 2, 4, 8);
        });
    }

    private void refusedApart() {
        s.holds(20, "NONE, and nothing is done, if the HALF is none of one HEAP that there is (empty, all of it, of several)", () -> {
            HandsOrder x = Told.of(Told.TOWER);
            s.each("no half of the whole", new int[] {0, 7, 8, 9, 15, 512, 513, -1, Integer.MIN_VALUE, Integer.MAX_VALUE}, half -> x.apart(half, 0), -1);
            heapsAre(x, 7, 7, 7);
            s.due("a and c", x.apart(5, 0), 2);
            s.each("no half then", new int[] {0, 2, 3, 5, 6, 7, 8, 13, -1, Integer.MIN_VALUE, Integer.MAX_VALUE}, half -> x.apart(half, 0), -1);
            heapsAre(x, 5, 2, 5);
            s.due("one cut there was", x.together(), 1);
            s.due("a one", Told.of(Told.ONE_CELL).apart(1, 0), -1);
        });
        s.holds(20, "or the CUT is not GOOD", () -> {
            HandsOrder x = Told.of(Told.TOWER);
            s.due("b up", x.apart(2, 4), -1);
            s.due("b down", x.apart(2, 5), -1);
            s.each("b on way", Sentences.NO_WAYS, way -> x.apart(2, way), -1);
            s.due("b on way 6", x.apart(2, 6), -1);
            heapsAre(x, 7, 7, 7);
            s.due("no cuts there were", x.together(), 0);
            HandsOrder joined = Told.of(Told.JOINED);
            s.due("a joint is not reached", joined.apart(1, 1), -1);
            heapsAre(joined, 7, 7, 7);
            s.due("c leaves", joined.apart(4, 4), 2);
            s.due("then it is reached", joined.apart(1, 1), 3);
        });
    }

    private void where() {
        s.holds(21, "The HEAP in which PART p is, as it is TAKEN APART", () -> {
            HandsOrder x = Told.of(Told.parts(9));
            s.due("the last of nine", x.where(8), 511);
            x.apart(256, 4);
            s.due("the last then", x.where(8), 256);
            s.due("the first then", x.where(0), 255);
        });
        s.holds(21, "NONE if there is none such.", () -> {
            HandsOrder x = Told.of(Told.TOWER);
            s.each("where", Sentences.NEVER_PARTS, x::where, -1);
            s.due("where 3 of three", x.where(3), -1);
            s.due("where 9 of nine", Told.of(Told.parts(9)).where(9), -1);
            s.due("where 0 of none", Told.of("").where(0), -1);
        });
    }

    private void together() {
        s.holds(22, "All is together again: how many CUTS there were.", () -> {
            s.due("without a thing", new HandsOrder().together(), 0);
            HandsOrder x = Told.of(Told.parts(9));
            s.due("none", x.together(), 0);
            for (int p = 0; p < 8; p++) {
                x.apart(1 << p, 4);
                x.apart(511, 4);
            }
            s.due("eight, refused ones are none", x.together(), 8);
            s.due("none again", x.together(), 0);
            for (int p = 0; p < 9; p++) {
                s.due("where " + p, x.where(p), 511);
            }
            s.due("a cut again", x.apart(1, 4), 2);
            s.due("one", x.together(), 1);
        });
    }

    private void swollen() {
        s.holds(23, "A PART is SWOLLEN on a WAY or not from now on (not at first, and behind each text that is taken): true", () -> {
            HandsOrder x = Told.of(Told.parts(9));
            for (int p = 0; p < 9; p++) {
                for (int way = 0; way < 6; way++) {
                    s.due("not at first", x.swollen(p, way, false), false);
                    s.due("swollen", x.swollen(p, way, true), true);
                }
            }
            for (int p = 0; p < 9; p++) {
                for (int way = 0; way < 6; way++) {
                    s.due("no more", x.swollen(p, way, false), true);
                }
            }
            x.swollen(8, 5, true);
            Told.thing(x, "#");
            s.due("behind a fault it is so still", x.swollen(8, 5, true), false);
            Told.thing(x, Told.parts(9));
            s.due("behind a text it is not", x.swollen(8, 5, false), false);
            HandsOrder y = Told.of(APART);
            y.swollen(1, 2, true);
            s.due("b has a cell more", y.safeCut(6, 2, 0), 0);
            Told.thing(y, APART);
            s.due("b has no cell more", y.safeCut(6, 2, 0), 1);
        });
        s.holds(23, "false if one can't be, or it is so.", () -> {
            HandsOrder x = Told.of(APART);
            s.each("part", Sentences.NEVER_PARTS, p -> Sentences.of(x.swollen(p, 2, true)), 0);
            s.each("part, not so", Sentences.NEVER_PARTS, p -> Sentences.of(x.swollen(p, 2, false)), 0);
            s.each("way", Sentences.NO_WAYS, way -> Sentences.of(x.swollen(1, way, true)), 0);
            s.due("part 3", x.swollen(3, 0, true), false);
            s.due("way 6", x.swollen(1, 6, true), false);
            s.due("nothing is changed", x.safeCut(6, 2, 0), 1);
            s.due("it is not so", x.swollen(1, 2, false), false);
            s.due("swollen", x.swollen(1, 2, true), true);
            s.due("it is so", x.swollen(1, 2, true), false);
            s.due("it stays so", x.safeCut(6, 2, 0), 0);
            s.due("no more", x.swollen(1, 2, false), true);
            s.due("it is not so again", x.swollen(1, 2, false), false);
            s.due("it stays not so", x.safeCut(6, 2, 0), 1);
        });
    }

    private void swollenCells() {
        s.holds(23, "for BARS alone, besides its CELLS also those 1 farther that WAY", () -> {
            for (int way = 0; way < 6; way++) {
                for (int up = 0; up < 6; up++) {
                    if (up / 2 != way / 2) {
                        grownBy(way, up);
                    }
                }
            }
            HandsOrder x = Told.of("part a box 2 2 2 1 1 1; part b box 3 3 5 1 1 1;");
            x.swollen(0, 0, true);
            x.swollen(0, 2, true);
            s.due("no cell on two ways at once", x.safeCut(3, 1, 4), 1);
            HandsOrder two = Told.of("part a box 0 0 0 1 1 1; part b box 2 0 0 1 1 1;");
            two.swollen(0, 0, true);
            two.swollen(1, 1, true);
            s.due("both have the cell between them", two.safeCut(3, 1, 2), 1);
            s.due("cells stay", two.cell(1, 0, 0), -1);
            s.due("bars stay", two.bars(0, 0), 2);
        });
        s.holds(23, "(on the edge none)", () -> {
            for (int k = 0; k < CutBoundaries.AROUND.length; k++) {
                String around = CutBoundaries.AROUND[k][1];
                boolean east = around.charAt(0) == '7';
                HandsOrder x = Told.of("part a box " + CutBoundaries.AROUND[k][0] + " 1 1 1; part b box " + (east ? 4 : around.charAt(0) - '0' + 2)
                        + around.substring(1) + " 1 1 1;");
                s.due("swollen", x.swollen(0, CutBoundaries.WAYS_AROUND[k], true), true);
                s.due("beyond the edge, " + CutBoundaries.AROUND[k][0] + " to " + around, x.safeCut(3, 2, east ? 0 : 1), 1);
            }
        });
        s.holds(23, "that no PART has", () -> {
            String text = "part a box 0 0 0 1 1 1; part b box 2 1 0 1 1 1;";
            HandsOrder free = Told.of(text + " part c box 5 5 5 1 1 1;");
            free.swollen(0, 2, true);
            s.due("nobody has it", free.safeCut(3, 1, 0), 0);
            HandsOrder taken = Told.of(text + " part c box 0 1 0 1 1 1;");
            taken.swollen(0, 2, true);
            s.due("c has it", taken.safeCut(3, 1, 0), 1);
            taken.bent(2, true);
            s.due("c has it, though it is bent", taken.safeCut(3, 1, 0), 1);
            HandsOrder own = Told.of("part a box 0 0 0 1 2 1; part b box 2 2 0 1 1 1;");
            own.swollen(0, 2, true);
            s.due("beside its own cell", own.safeCut(3, 1, 0), 0);
        });
    }

    /** b is two cells from the cell that a has more; and, to be free of a, three. */
    private void grownBy(int way, int up) {
        int[] at = {3, 3, 3};
        at[up / 2] += up % 2 == 0 ? 2 : -2;
        for (int far = 1; far < 3; far++) {
            HandsOrder x = Told.of("part a box 3 3 3 1 1 1; part b box " + Told.away(at[0], at[1], at[2], way, far) + " 1 1 1;");
            s.due("as it is", x.safeCut(3, 1, up), 1);
            x.swollen(0, way ^ 1, true);
            s.due("swollen on the other side", x.safeCut(3, 1, up), 1);
            x.swollen(0, way, true);
            s.due("swollen on " + way + ", b " + far + " farther, leaving on " + up, x.safeCut(3, 1, up), far == 1 ? 0 : 1);
            s.due("b leaving on the way back", x.safeCut(3, 2, up ^ 1), far == 1 ? 0 : 1);
            s.due("a cut is good as ever", x.cut(3, 1, up), 1);
        }
    }

    private void safe() {
        s.holds(24, "what 0 SAFE ORDERS, 1 SAFE LEAST (NONE without) of THE WHOLE", () -> {
            HandsOrder x = Told.of(Told.CAGE);
            s.row("a never", x::safe, 0, -1);
            x.bent(0, true);
            s.row("a never, bent", x::safe, 1, 1);
            s.row("a one", Told.of(Told.ONE_CELL)::safe, 1, 0);
            s.row("nine", Told.of(Told.parts(9))::safe, 2027025, 8);
            // b shuts the hole above a, if it is swollen there
            HandsOrder pit = Told.of("part a box 3 3 3 1 1 1; part b box 4 3 3 1 1 1 box 2 3 3 1 1 1 box 3 4 3 1 1 1 box 3 2 3 1 1 1 box 3 3 2 1 1 1 box 4 3 6 1 1 1;");
            s.row("open", pit::safe, 1, 1);
            pit.swollen(1, 1, true);
            s.row("shut", pit::safe, 0, -1);
            HandsOrder pole = Told.of(CutBoundaries.POLE);
            pole.price(6, 10);
            s.due("hands cost, too", pole.safe(1), 21);
            s.due("orders as ever", pit.heap(3, 2), 1);
            s.due("least as ever", pit.heap(3, 3), 1);
        });
        s.holds(24, "(0, NONE without a THING)", () -> {
            s.row("a new object", new HandsOrder()::safe, 0, -1);
            s.row("an empty text", Told.of("")::safe, 0, -1);
            HandsOrder x = Told.of(Told.TOWER);
            x.safe(0);
            Told.thing(x, "");
            s.row("an empty text behind another", x::safe, 0, -1);
        });
        s.holds(24, "(those that are BENT are none; JOINTS as ever)", () -> {
            HandsOrder x = Told.of(APART);
            x.swollen(1, 2, true);
            s.due("b has a cell more", x.safeCut(6, 2, 0), 0);
            x.bent(1, true);
            s.due("b is bent", x.safeCut(6, 2, 0), 1);
            x.bent(1, false);
            x.bent(2, true);
            s.due("c is bent", x.safeCut(6, 2, 0), 1);
            x.bent(2, false);
            s.due("neither", x.safeCut(6, 2, 0), 0);
            HandsOrder joined = Told.of("part a box 0 0 0 1 1 1; part b box 1 0 0 1 1 1; part c box 0 1 2 1 1 1; joint a b 0 0 0 up;");
            joined.swollen(2, 3, true);
            s.due("a swollen part covers no joint by it", joined.safeCut(7, 1, 1), 1);
            HandsOrder covered = Told.of(Told.JOINED);
            s.due("a joint that is not reached", covered.safeCut(7, 1, 1), 0);
            s.due("its orders are the safe ones", covered.safe(0), covered.heap(7, 2));
        });
    }

    private void safePlan() {
        s.holds(24, "2 the first CUT of THE PLAN (from 0) that is not SAFE (NONE if all are, or there is no PLAN).", () -> {
            HandsOrder x = Told.of(APART);
            s.row("the plan's halves", k -> x.plan(k, 1), 1, 2, -1);
            s.due("all are safe", x.safe(2), -1);
            x.swollen(1, 2, true);
            s.due("the last is not", x.safe(2), 1);
            Told.thing(x, "part b box 0 0 0 1 1 1; part c box 3 1 0 1 1 1; part a box 7 7 7 1 1 1;");
            x.swollen(0, 2, true);
            s.due("the first is not", x.safe(2), 0);
            HandsOrder first = Told.of(APART);
            first.swollen(1, 2, true);
            s.due("asked first of a thing", first.safe(2), 1);
            s.due("no plan of a never", Told.of(Told.CAGE).safe(2), -1);
            s.due("no plan of a one", Told.of(Told.ONE_CELL).safe(2), -1);
            s.due("no plan of nothing", new HandsOrder().safe(2), -1);
            HandsOrder nine = Told.of("part a box 0 0 0 1 1 1; part b box 0 1 1 1 1 1; part c box 0 2 2 1 1 1; part d box 0 3 3 1 1 1; part e box 0 4 4 1 1 1;"
                    + " part f box 0 5 5 1 1 1; part g box 0 6 6 1 1 1; part h box 0 0 7 1 1 1; part i box 4 0 6 1 1 1;");
            s.due("all of eight are safe", nine.safe(2), -1);
            nine.swollen(7, 5, true);
            s.due("the last of eight", nine.plan(7, 0), 384);
            s.due("the last of eight is not", nine.safe(2), 7);
        });
        s.holds(24, "NONE for another what.", () -> {
            HandsOrder x = Told.of(Told.TOWER);
            s.each("safe", new int[] {-1, 3, 4, 32, Integer.MIN_VALUE, Integer.MAX_VALUE}, x::safe, -1);
            s.each("safe without a thing", new int[] {-1, 3}, new HandsOrder()::safe, -1);
        });
    }

    private void safeCut() {
        s.holds(25, "Whether a CUT of a HEAP is SAFE: 1 or 0", () -> {
            HandsOrder x = Told.of(APART);
            s.row("b and c", way -> x.safeCut(6, 2, way), 1, 1, 1, 1, 1, 1);
            x.swollen(1, 2, true);
            s.row("b is swollen north", way -> x.safeCut(6, 2, way), 0, 1, 1, 1, 1, 1);
            s.row("c leaves it", way -> x.safeCut(6, 4, way), 1, 0, 1, 1, 1, 1);
            HandsOrder tower = Told.of(Told.TOWER);
            s.row("what is not good is not safe", way -> tower.safeCut(7, 2, way), 1, 1, 1, 1, 0, 0);
        });
        s.holds(25, "NONE if one can't be (as for cut()).", () -> {
            HandsOrder x = Told.of(Told.TOWER);
            s.noHalves("safeCut", (heap, half) -> x.safeCut(heap, half, 0));
            s.each("safeCut on way", Sentences.NO_WAYS, way -> x.safeCut(7, 1, way), -1);
            s.due("safeCut on way 6", x.safeCut(7, 1, 6), -1);
        });
    }

    private void holding() {
        s.holds(26, "the set (0: nobody)", () -> {
            s.row("the tower", heap -> Told.of(Told.TOWER).holding(heap + 1), 0, 0, 0, 0, 4, 0, 0);
            HandsOrder tips = Told.of("part a box 0 0 0 1 1 1 box 1 0 1 1 1 2;");
            s.due("it tips, but nobody is held", tips.holding(1), 0);
            s.row("those that hug", heap -> Told.of(HUG).holding(heap + 1), 0, 0, 2, 0, 4, 0, 2);
            HandsOrder nine = Told.of("part a box 0 0 0 8 8 1;" + Told.parts(8).replace(" 0 0 1 1 1;", " 0 2 1 1 1;").replace("part a", "part i"));
            s.due("eight of nine", nine.holding(511), 510);
            HandsOrder two = Told.of("part a box 0 0 0 1 1 2; part c box 0 0 2 4 1 1; part d box 2 0 1 1 1 1 box 2 1 1 1 1 3 box 2 0 3 1 1 1;");
            s.due("c lies on a and on d, d on c", two.holding(7), 0);
            s.due("c and d alone", two.holding(6), 0);
            s.row("all on the floor", heap -> Told.of(Told.parts(3)).holding(heap + 1), 0, 0, 0, 0, 0, 0, 0);
        });
        s.holds(26, "those with the fewest; of several the least as a number", () -> {
            HandsOrder x = Told.of("part f box 7 7 0 1 1 1; part a box 0 0 3 1 1 1; part b box 2 0 3 1 1 1; part c box 0 0 2 3 1 1;");
            s.due("c carries both", x.holding(15), 8);
            s.due("without c both", x.holding(7), 6);
            s.due("each carries the other, the first told", Told.of(HUG).holding(7), 2);
            HandsOrder back = Told.of("part b box 2 0 2 1 1 1 box 4 0 4 1 1 1; part a box 2 0 3 3 1 1; part f box 0 0 0 1 1 1;");
            s.due("told the other way about", back.holding(7), 1);
        });
        s.holds(26, "NONE if there is none such.", () -> {
            HandsOrder x = Told.of(Told.TOWER);
            s.each("holding", Sentences.NEVER_HEAPS, x::holding, -1);
            s.each("holding", new int[] {8, 9, 15}, x::holding, -1);
            s.due("without a thing", new HandsOrder().holding(0), -1);
        });
    }

    private void oneByOne() {
        s.holds(27, "how many such ORDERS", () -> {
            s.row("the tower", heap -> Told.of(Told.TOWER).oneByOne(heap + 1), 1, 1, 1, 1, 1, 1, 3);
            s.due("a never", Told.of(Told.CAGE).oneByOne(3), 0);
            s.due("pairs that part first", Told.of(Told.CORNERS).oneByOne(15), 0);
            s.due("one after the other", Told.of(Told.DEEP).oneByOne(31), 1);
            s.row("1, 2, .. free ones", n -> Told.of(Told.parts(n + 1)).oneByOne((2 << n) - 1), 1, 1, 3, 12, 60, 360, 2520, 20160, 181440);
        });
        s.holds(27, "NONE if there is none such.", () -> {
            HandsOrder x = Told.of(Told.TOWER);
            s.each("oneByOne", Sentences.NEVER_HEAPS, x::oneByOne, -1);
            s.each("oneByOne", new int[] {8, 9, 15}, x::oneByOne, -1);
            s.due("without a thing", new HandsOrder().oneByOne(0), -1);
        });
    }
}
