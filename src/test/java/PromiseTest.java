/** Each promise with ordinary inputs, the edges that the document names, and wrong inputs; the due answers are told by hand. */
public final class PromiseTest {
    private static final int[] WRONG = {-1, Integer.MIN_VALUE, Integer.MAX_VALUE};
    private static int wrong = 0;

    private static void due(String what, long got, long want) {
        if (got != want) {
            wrong++;
            System.out.println(what + " answered " + got + ", due is " + want);
        }
    }

    private static void due(String what, boolean got, boolean want) {
        due(what, got ? 1 : 0, want ? 1 : 0);
    }

    private static void newObject() {
        HandsOrder x = new HandsOrder();
        due("new fault 0", x.fault(0), 0);
        due("new fault 1", x.fault(1), -1);
        due("new cell", x.cell(0, 0, 0), -1);
        due("new bars", x.bars(0, 0), -1);
        due("new bent", x.bent(0, true), false);
        due("new cut", x.cut(1, 1, 0), -1);
        due("new heap", x.heap(1, 2), -1);
        for (int what = 0; what < 6; what++) {
            due("new net " + what, x.net(what), 0);
        }
        due("new plan", x.plan(0, 0), -1);
        due("new ring", x.ring(1, 0, 0), -1);
        due("new missing", x.missing(0), -1);
        due("new down", x.down(0), -1);
        due("new inOne", x.inOne(0, 1, 0), -1);
        due("new view", x.view(3, 1, 0), -1);
        due("new moves", x.moves(3, 1), -1);
        due("new apart", x.apart(1, 0), -1);
        due("new where", x.where(0), -1);
        due("new together", x.together(), 0);
        due("new swollen", x.swollen(0, 0, true), false);
        due("new safe 0", x.safe(0), 0);
        due("new safe 1", x.safe(1), -1);
        due("new safe 2", x.safe(2), -1);
        due("new safeCut", x.safeCut(3, 1, 0), -1);
        due("new holding", x.holding(1), -1);
        due("new oneByOne", x.oneByOne(1), -1);
        due("new judged", x.judged(0), -1);
        due("new pull", x.pull(3, 1, 0, 0), -1);
        due("new like", x.like(0, 0, 0), -1);
        due("new mirrored", x.mirrored(0, 0), -1);
        due("new minutes", x.minutes(3, 1, 0), -1);
        due("new time", x.time(1, 0), -1);
        due("new record of nothing", x.record(), 0);
        due("a record without a thing", Told.record(x, "a up;"), -1);
        due("its fault", x.fault(0), 2);
        due("NONE", HandsOrder.NONE, -1);
    }

    private static void feedAndEnd() {
        HandsOrder x = new HandsOrder();
        for (int n = 1; n <= 40; n++) {
            due("feed " + n, x.feed(-1, 0, 1, Integer.MIN_VALUE, Integer.MAX_VALUE), 20 * n);
        }
        due("feed beyond 800", x.feed(0, 0, 0, 0, 0), -1);
        due("end 801", x.end(801), false);
        due("end -1", x.end(-1), false);
        due("end least", x.end(Integer.MIN_VALUE), false);
        due("end 800", x.end(800), true);
        due("end 781", x.end(781), true);
        due("feed at 781", x.feed(0, 0, 0, 0, 0), -1);
        due("end 780", x.end(780), true);
        due("end 781 then", x.end(781), false);
        due("feed at 780", x.feed(0, 0, 0, 0, 0), 800);
        due("end 0", x.end(0), true);
        due("feed at 0", x.feed(0, 0, 0, 0, 0), 20);
        // "part a box 1 2 3 1 1 1;" four bytes a number, the highest first
        x.end(0);
        x.feed(0x70617274, 0x20612062, 0x6f782031, 0x20322033, 0x20312031);
        x.feed(0x20313b23, 0, 0, 0, 0);
        due("end 23", x.end(23), true);
        due("thing", x.thing(), 1);
        due("its cell", x.cell(1, 2, 3), 0);
        due("the tape is empty then", x.end(1), false);
        Told.tell(x, "#");
        due("a fault", x.thing(), -1);
        due("the tape is empty behind a fault", x.end(1), false);
    }

    /** The place of the fault is where ^ stands in the text. */
    private static void faulty(int which, String marked) {
        HandsOrder x = Told.of(Told.TOWER);
        x.bent(0, true);
        int place = marked.indexOf('^');
        Told.tell(x, marked.replace("^", ""));
        due("thing of " + marked, x.thing(), -1);
        due("fault of " + marked, x.fault(0), which);
        due("place of fault of " + marked, x.fault(1), place);
        due("the thing stays", x.net(3), 3);
        due("who is bent stays", x.bent(0, true), false);
    }

    private static void faultsOfForm() {
        String[] texts = {"^x", "^;", "^7", "^box", "^and", "^P", "^#", "\n ^.", "^" + (char) 0, "^" + (char) 225, "part^", "part ^", "part\n^",
            "part ^box", "part ^part", "part ^joint", "part ^east", "part ^west", "part ^north", "part ^south", "part ^up", "part ^down",
            "part ^sevenle box 0 0 0 1 1 1;", "part sixsix ^", "part ^1", "part a^;", "part a ^joint", "part a^1", "part a^\tbox", "part a box ^;",
            "part a box 1 ^x", "part a box 0 0 0 1 1 ^;", "part a box 0 0 0 1 1 1^", "part a box 0 0 0 1 1 1  ^", "part a box 0 0 0 1 1 1 ^joint",
            "part a box 0 0 0 1 1 1 ^1;", "part a box ^0000 0 0 1 1 1;", "part a box 0^,0", "part a box ^-1", "part a box 0 0 0 1 1 1;^;",
            "part a box 0 0 0 1 1 1 ^boxbox 0 0 0 1 1 1;"};
        for (String text : texts) {
            faulty(1, text);
        }
        String two = "part a box 0 0 0 1 1 1; part b box 1 0 0 1 1 1; ";
        String[] joints = {"joint ^;", "joint^", "joint ^up b", "joint a ^;", "joint a ^box", "joint a b ^up", "joint a b 0 0 ^up", "joint a b 0 0 0 ^;",
            "joint a b 0 0 0 ^a;", "joint a b 0 0 0 up^", "joint a b 0 0 0 up ^part", "joint a b 0 0 0 ^upp;", "joint a b 0 0 0 up;^#", "joint a b ^1234 0 0 up;"};
        for (String joint : joints) {
            faulty(1, two + joint);
        }
    }

    private static void otherFaults() {
        String two = "part a box 0 0 0 1 1 1; part b box 1 0 0 1 1 1; ";
        faulty(2, two + "part ^b box 0 0 0 9 9 9;");
        faulty(2, two + "joint a ^c 0 0 0 up; part c box 2 0 0 1 1 1;");
        faulty(2, two + "joint ^c c 0 0 0 up;");
        faulty(2, two + "joint a ^a 0 0 0 up;");
        faulty(2, "part a box 0 0 0 1 1 1; joint a ^b");
        faulty(4, "part a box ^8 0 0 1 1 1;");
        faulty(4, "part a box 0 ^100 0 1 1 1;");
        faulty(4, "part a box 0 0 ^8 1 1 1;");
        faulty(4, "part a box 0 0 0 ^0 1 1;");
        faulty(4, "part a box 0 0 0 1 ^000 1;");
        faulty(4, "part a box 0 0 0 1 1 ^9;");
        faulty(4, "part a box 7 0 0 ^2 1 1;");
        faulty(4, "part a box 0 1 0 1 ^8 1;");
        faulty(4, "part a box 0 0 5 1 1 ^4;");
        faulty(4, two + "joint a b ^8 0 0 up;");
        faulty(4, two + "joint a b 0 ^9 0 up;");
        faulty(4, two + "joint a b 0 0 ^999 up;");
        faulty(5, two + "part c ^box 1 0 0 1 1 1;");
        faulty(5, two + "part c box 2 0 0 1 1 1 ^box 0 0 0 8 8 8 #");
        faulty(5, "part a box 1 1 1 2 2 2; part b ^box 2 2 2 1 1 1;");
        faulty(3, Told.parts(9) + "^part a box 9");
        faulty(3, Told.parts(9) + "^part");
        faulty(3, "part a" + Told.boxes(24) + "^box 9 0 0 1 1 1;");
        faulty(3, "part b box 7 7 7 1 1 1; part a" + Told.boxes(23) + "^box 7 7 7 1 1 1;");
        faulty(3, two + Told.joints(8) + "^joint a c");
    }

    private static void things() {
        due("an empty text", Told.of("").net(3), 0);
        due("blanks alone", Told.of(" \n ").net(5), 0);
        HandsOrder x = Told.of("part a box0 0 0 1 1 1box 007 07 7 1 1 1;part\nb box 1 0 0 1 1 1;joint a b1 0 0up;joint b a 7 7 7 west;");
        due("parts without blanks", x.net(3), 2);
        due("joints without blanks", x.net(4), 2);
        due("a number with 0 ahead", x.cell(7, 7, 7), 0);
        due("no fault", x.fault(0), 0);
        due("no place", x.fault(1), -1);
        due("fault 2", x.fault(2), -1);
        due("fault -1", x.fault(-1), -1);
        due("a length of 8", Told.of("part a box 0 0 0 8 8 8;").cell(7, 7, 7), 0);
        due("cells told twice in one part", Told.of("part a box 0 0 0 2 2 2 box 1 1 1 2 2 2;").net(3), 1);
        due("9 parts", Told.of(Told.parts(9)).net(3), 9);
        due("24 boxes", Told.of("part a" + Told.boxes(24) + ";").net(3), 1);
        due("8 joints", Told.of("part a box 0 0 0 1 1 1; part b box 1 0 0 1 1 1;" + Told.joints(8)).net(4), 8);
        due("names that are nearly keywords", Told.of("part and box 0 0 0 1 1 1; part boxes box 1 0 0 1 1 1; part u box 2 0 0 1 1 1; joint and u 0 0 0 up;").net(3), 3);
    }

    private static void newThingStartsAnew() {
        HandsOrder x = Told.of(Told.TOWER);
        x.bent(0, true);
        x.swollen(1, 0, true);
        x.apart(1, 0);
        Told.record(x, "a east;");
        x.price(0, 50);
        Told.tell(x, Told.TOWER);
        due("thing again", x.thing(), 3);
        due("nobody is bent", x.bent(0, false), false);
        due("nobody is swollen", x.swollen(1, 0, false), false);
        due("all is together", x.where(0), 7);
        due("no cuts", x.together(), 0);
        due("no record", x.judged(0), -1);
        due("the price stays", x.plan(0, 2), 1);
        Told.tell(x, "part a box 0 0 0 1 1 1;");
        due("a smaller thing", x.thing(), 1);
        due("its whole", x.net(5), 1);
        due("where is no more", x.where(1), -1);
        due("apart of what is no more", x.apart(2, 0), -1);
        due("cell of what is no more", x.cell(0, 0, 1), -1);
    }

    private static void cells() {
        HandsOrder x = Told.of("part a box 1 2 3 2 3 4; part b box 0 0 0 1 1 1;");
        due("cell least", x.cell(1, 2, 3), 0);
        due("cell greatest", x.cell(2, 4, 6), 0);
        due("cell beside x", x.cell(3, 4, 6), -1);
        due("cell beside y", x.cell(2, 5, 6), -1);
        due("cell beside z", x.cell(2, 4, 7), -1);
        due("cell b", x.cell(0, 0, 0), 1);
        for (int c : new int[] {-1, 8, 64, Integer.MIN_VALUE, Integer.MAX_VALUE}) {
            due("cell x " + c, x.cell(c, 0, 0), -1);
            due("cell y " + c, x.cell(0, c, 0), -1);
            due("cell z " + c, x.cell(0, 0, c), -1);
        }
    }

    private static void bars() {
        HandsOrder x = Told.of(Told.TOWER);
        due("bars a up", x.bars(0, 4), 6);
        due("bars a down", x.bars(0, 5), 0);
        due("bars b up", x.bars(1, 4), 4);
        due("bars b down", x.bars(1, 5), 1);
        due("bars a east", x.bars(0, 0), 0);
        HandsOrder far = Told.of("part a box 0 0 0 1 1 1; part b box 7 0 0 1 1 1; part c box 0 7 0 1 1 1; part d box 0 0 7 1 1 1;");
        int[] all = {2, 0, 4, 0, 8, 0};
        for (int way = 0; way < 6; way++) {
            due("bars from the corner " + way, far.bars(0, way), all[way]);
            due("bars to the corner " + way, far.bars(1 + way / 2, way), way % 2);
        }
        for (int w : WRONG) {
            due("bars part " + w, x.bars(w, 0), -1);
            due("bars way " + w, x.bars(0, w), -1);
        }
        due("bars part 3", x.bars(3, 0), -1);
        due("bars way 6", x.bars(0, 6), -1);
    }

    private static void pricesAndPlan() {
        HandsOrder x = Told.of(Told.TOWER);
        int[] first = {7, 1, 0, 6, 2, 0};
        for (int k = 0; k < 6; k++) {
            due("plan " + k, x.plan(k / 3, k % 3), first[k]);
        }
        due("plan 2", x.plan(2, 0), -1);
        due("plan -1", x.plan(-1, 0), -1);
        due("plan what -1", x.plan(0, -1), -1);
        due("plan what 3", x.plan(0, 3), -1);
        due("least", x.heap(7, 3), 2);
        for (int way = 0; way < 4; way++) {
            due("price " + way, x.price(way, 99), true);
        }
        due("price down", x.price(5, 0), true);
        due("least by price", x.heap(7, 3), 0);
        due("plan by price, half", x.plan(0, 1), 1);
        due("plan by price, way", x.plan(0, 2), 5);
        due("price up", x.price(4, 0), true);
        due("price down again", x.price(5, 1), true);
        due("plan up, half", x.plan(0, 1), 4);
        due("plan up, way", x.plan(0, 2), 4);
        due("plan up, then the rest's", x.plan(1, 0), 3);
        due("plan up, then its half", x.plan(1, 1), 2);
        due("the same price again", x.price(5, 1), true);
        due("price way 7", x.price(7, 0), false);
        due("price way -1", x.price(-1, 0), false);
        due("price 100", x.price(0, 100), false);
        due("price -1", x.price(0, -1), false);
        due("no plan without an order", Told.of(Told.CAGE).plan(0, 0), -1);
        due("no plan of a one", Told.of("part a box 0 0 0 1 1 1;").plan(0, 0), -1);
        HandsOrder four = Told.of(Told.parts(4));
        for (int way = 2; way < 6; way++) {
            four.price(way, 9);
        }
        // four in a row, east and west alone are cheap: the first leaves westwards each time
        due("row half", four.plan(0, 1), 1);
        due("row way", four.plan(0, 2), 1);
        due("row last heap", four.plan(2, 0), 12);
    }

    /** Of two parts that can go apart on one way alone (and back) each way's price is 1 at first. */
    private static void pricesAtFirst() {
        for (int axis = 0; axis < 3; axis++) {
            HandsOrder x = Told.of(Told.tube(axis));
            due("least at first " + axis, x.heap(3, 3), 1);
            due("plan at first " + axis, x.plan(0, 2), 2 * axis);
            x.price(2 * axis, 2);
            due("least back " + axis, x.heap(3, 3), 1);
            due("plan back " + axis, x.plan(0, 2), 2 * axis + 1);
            x.price(2 * axis + 1, 3);
            due("least then " + axis, x.heap(3, 3), 2);
        }
    }

    private static void planGoesIntoTheHalfFirst() {
        HandsOrder z = Told.of("part a box 0 0 0 1 1 1; part b box 2 0 0 1 1 1; part c box 4 0 0 1 1 1; part d box 6 0 0 1 1 1;");
        for (int way = 0; way < 6; way++) {
            z.price(way, way == 0 ? 0 : 9);
        }
        // eastwards alone costs nothing: the first half that can go is d, then c, then b
        due("z first half", z.plan(0, 1), 8);
        due("z second heap", z.plan(1, 0), 7);
        due("z second half", z.plan(1, 1), 4);
        due("z third heap", z.plan(2, 0), 3);
        HandsOrder pairs = Told.of(Told.CORNERS);
        due("corners: the whole's cut", pairs.plan(0, 1), 3);
        due("corners: then the half's", pairs.plan(1, 0), 3);
        due("corners: then the rest's", pairs.plan(2, 0), 12);
        due("corners: rounds", pairs.heap(15, 4), 2);
        due("corners: orders", pairs.heap(15, 2), 1);
        due("corners: net", pairs.net(0), 7);
    }

    private static void bent() {
        HandsOrder x = Told.of(Told.CAGE);
        due("cage orders", x.heap(3, 2), 0);
        due("not bent so far", x.bent(0, false), false);
        due("bent", x.bent(0, true), true);
        due("bent again", x.bent(0, true), false);
        due("bent bars nobody", x.bars(1, 0), 0);
        due("nobody bars what is bent", x.bars(0, 0), 0);
        due("bent orders", x.heap(3, 2), 1);
        due("bent cells stay for moves", x.moves(3, 1), -1);
        due("bent cells stay for view", x.view(3, 1, 4), 0);
        due("straight again", x.bent(0, false), true);
        due("straight orders", x.heap(3, 2), 0);
        for (int w : WRONG) {
            due("bent " + w, x.bent(w, true), false);
        }
        due("bent 2", x.bent(2, true), false);
        HandsOrder joined = Told.of(Told.JOINED);
        joined.bent(2, true);
        due("a bent part covers a joint still", joined.cut(7, 1, 1), 0);
    }

    private static void cuts() {
        HandsOrder x = Told.of(Told.JOINED);
        due("covered by c", x.cut(7, 1, 1), 0);
        due("covered by c, the other half", x.cut(7, 6, 0), 0);
        due("c is not there", x.cut(3, 1, 1), 1);
        due("barred", x.cut(3, 1, 0), 0);
        due("both of the joint in the half", x.cut(7, 3, 0), 1);
        due("both in the rest", x.cut(7, 4, 0), 1);
        due("c up", x.cut(7, 4, 4), 1);
        due("c down is barred", x.cut(7, 4, 5), 0);
        due("two that go together do not bar one another", x.cut(7, 3, 1), 1);
        due("half 0", x.cut(7, 0, 0), -1);
        due("half all", x.cut(7, 7, 0), -1);
        due("half not of it", x.cut(3, 4, 0), -1);
        due("half more", x.cut(3, 5, 0), -1);
        due("a one", x.cut(1, 1, 0), -1);
        due("way 6", x.cut(7, 1, 6), -1);
        due("heap 8", x.cut(8, 1, 0), -1);
        due("heap 15", x.cut(15, 1, 0), -1);
        for (int w : WRONG) {
            due("cut heap " + w, x.cut(w, 1, 0), -1);
            due("cut half " + w, x.cut(7, w, 0), -1);
            due("cut way " + w, x.cut(7, 1, w), -1);
        }
        HandsOrder self = Told.of("part a box 0 0 0 1 1 1 box 0 0 2 1 1 1; part b box 1 0 0 1 1 1; joint a b 0 0 0 up;");
        due("a joint covered by its own part", self.cut(3, 1, 1), 0);
        HandsOrder own = Told.of("part a box 0 0 0 1 1 1; part b box 1 0 0 1 1 1; joint a b 0 0 0 up;");
        due("its own cell does not count", own.cut(3, 1, 1), 1);
        // the joint of a and b is at 3 3 3; c stands four cells or one cell from there on one way
        for (int way = 0; way < 6; way++) {
            for (int far = 1; far < 5; far += 3) {
                int[] at = {3, 3, 3};
                at[way / 2] += way % 2 == 0 ? far : -Math.min(far, 3);
                String spot = at[0] + " " + at[1] + " " + at[2];
                for (int reached = 0; reached < 6; reached++) {
                    HandsOrder y = Told.of("part a box 0 0 0 1 1 1; part b box 7 7 7 1 1 1; part c box " + spot + " 1 1 1; joint a b 3 3 3 "
                            + Model.WAYS.get(reached) + ";");
                    due("joint reached from " + reached + ", c at " + spot, y.cut(7, 1, 1), reached == way ? 0 : 1);
                }
            }
        }
    }

    private static void heapsAndNet() {
        HandsOrder x = Told.of(Told.TOWER);
        long[] all = {1, 3, 3, 2, 2, 0, 0, 1};
        for (int what = 0; what < 8; what++) {
            due("tower " + what, x.heap(7, what), all[what]);
        }
        long[] one = {1, 0, 1, 0, 0, 0, 0, 1};
        for (int what = 0; what < 8; what++) {
            due("a one " + what, x.heap(4, what), one[what]);
        }
        due("heap 8", x.heap(8, 0), -1);
        due("heap 0", x.heap(0, 0), -1);
        due("heap what 8", x.heap(7, 8), -1);
        for (int w : WRONG) {
            due("heap " + w, x.heap(w, 0), -1);
            due("heap what " + w, x.heap(7, w), -1);
            due("net " + w, x.net(w), -1);
        }
        due("net 6", x.net(6), -1);
        int[] net = {7, 7, 0, 3, 0, 7};
        for (int what = 0; what < 6; what++) {
            due("net " + what, x.net(what), net[what]);
        }
        HandsOrder cage = Told.of(Told.CAGE);
        long[] never = {1, 0, 0, -1, -1, 0, 0, 0};
        for (int what = 0; what < 8; what++) {
            due("cage " + what, cage.heap(3, what), never[what]);
        }
        int[] cageNet = {1, 0, 1, 2, 0, 3};
        for (int what = 0; what < 6; what++) {
            due("cage net " + what, cage.net(what), cageNet[what]);
        }
        due("a one in a cage is not in the net", cage.heap(1, 0), 0);
        due("but has an order", cage.heap(1, 2), 1);
        HandsOrder single = Told.of("part a box 0 0 0 1 1 1;");
        due("single net", single.net(0), 1);
        due("single live", single.net(1), 1);
        due("nine free ones", Told.of(Told.parts(9)).heap(511, 2), 2027025);
        due("nine free ones, rounds", Told.of(Told.parts(9)).heap(511, 4), 4);
        due("nine free ones, net", Told.of(Told.parts(9)).net(0), 511);
    }

    private static void deadEnds() {
        // the cage beside a free part: the free one may go, the cage stays a never
        HandsOrder x = Told.of(Told.CAGE + " part c box 0 0 0 1 1 1;");
        due("orders", x.heap(7, 2), 0);
        due("partings", x.heap(7, 1), 1);
        due("net", x.net(0), 3);
        due("live", x.net(1), 0);
        due("nevers", x.net(2), 1);
        due("missing", x.missing(0), -1);
        due("down to c", x.down(2), 1);
        due("down to a", x.down(0), -1);
        due("in one", x.inOne(0, 1, 0), 1);
        due("in one least", x.inOne(0, 1, 1), 1);
        due("in one, others", x.inOne(0, 2, 0), 0);
        due("in one, others least", x.inOne(0, 2, 1), -1);
    }

    private static void hands() {
        // a lies on b and b on a, far above the floor
        HandsOrder x = Told.of("part f box 0 0 0 1 1 1; part a box 2 0 3 3 1 1; part b box 2 0 2 1 1 1 box 4 0 4 1 1 1;");
        due("one of two", x.holding(7), 2);
        due("and it tips", x.heap(7, 6), 1);
        due("hands", x.heap(7, 5), 2);
        due("the floor is that of the heap", x.holding(6), 0);
        due("heap 6 tips", x.heap(6, 6), 1);
        due("heap 6 hands", x.heap(6, 5), 1);
        due("both ones rest", x.holding(2), 0);
        due("floor and a", x.holding(3), 2);
        due("floor and b", x.holding(5), 4);
        due("holding 0", x.holding(0), -1);
        due("holding 8", x.holding(8), -1);
        for (int w : WRONG) {
            due("holding " + w, x.holding(w), -1);
        }
        String[] texts = {"box 0 0 0 1 1 1 box 1 0 1 1 1 1", "box 0 0 0 1 1 1 box 1 0 1 1 1 2", "box 1 0 0 1 1 1 box 0 0 1 1 1 1",
            "box 1 0 0 1 1 1 box 0 0 1 1 1 2", "box 0 0 0 1 1 1 box 0 1 1 1 1 1", "box 0 0 0 1 1 1 box 0 1 1 1 1 2",
            "box 0 1 0 1 1 1 box 0 0 1 1 1 1", "box 0 1 0 1 1 1 box 0 0 1 1 1 2"};
        for (int k = 0; k < texts.length; k++) {
            due("tips " + texts[k], Told.of("part a " + texts[k] + ";").heap(1, 6), k % 2);
            due("hands " + texts[k], Told.of("part a " + texts[k] + ";").heap(1, 5), k % 2);
        }
        HandsOrder two = Told.of("part f box 3 3 0 1 1 1; part a box 0 3 2 1 1 1; part b box 6 3 2 1 1 1;");
        due("two float", two.holding(7), 6);
        due("tower", Told.of(Told.TOWER).holding(7), 0);
        Told.tell(x, Told.TOWER);
        x.thing();
        due("another thing is held otherwise", x.holding(7), 0);
        due("another thing stands", x.heap(7, 5), 0);
        due("and it stands", two.heap(7, 5), 2);
        two.price(6, 7);
        // 1 and two hands of the whole; then a and b stand without f on their own floor, and nobody tips: 1
        due("hands cost", two.heap(7, 3), 16);
        due("bent parts rest as ever", two.bent(1, true) && two.holding(7) == 6, true);
    }

    private static void rings() {
        HandsOrder x = Told.of(Told.WHEEL);
        int[] east = {3, 0, 1, 2, -1};
        int[] west = {3, 0, 2, 1, -1};
        for (int what = 0; what < 5; what++) {
            due("ring east " + what, x.ring(7, 0, what), east[what]);
            due("ring west " + what, x.ring(7, 1, what), west[what]);
            due("ring up " + what, x.ring(7, 4, what), -1);
            due("ring of two " + what, x.ring(3, 0, what), -1);
        }
        HandsOrder cage = Told.of("part z box 7 7 7 1 1 1;" + Told.CAGE);
        int[] pair = {2, 1, 2, -1};
        for (int what = 0; what < 4; what++) {
            due("ring of the cage " + what, cage.ring(7, 5, what), pair[what]);
        }
        due("a one has no ring", cage.ring(1, 0, 0), -1);
        due("ring heap 8", cage.ring(8, 0, 0), -1);
        due("ring heap 0", cage.ring(0, 0, 0), -1);
        due("ring way 6", cage.ring(7, 6, 0), -1);
        for (int w : WRONG) {
            due("ring heap " + w, cage.ring(w, 0, 0), -1);
            due("ring way " + w, cage.ring(7, w, 0), -1);
            due("ring what " + w, cage.ring(7, 0, w), -1);
        }
        cage.bent(1, true);
        due("a bent one is in no ring", cage.ring(7, 5, 0), -1);
        HandsOrder nine = Told.of(Told.wheel(9));
        for (int what = 0; what < 11; what++) {
            due("ring of nine " + what, nine.ring(511, 0, what), what == 0 ? 9 : what < 10 ? what - 1 : -1);
            due("ring of nine, way back " + what, nine.ring(511, 1, what), what == 0 ? 9 : what == 1 ? 0 : what < 10 ? 10 - what : -1);
        }
        // two rings of two eastwards: bd first told by b, and cd; the first by its numbers is due
        HandsOrder two = Told.of("part a box 7 7 7 1 1 1; part b box 0 0 0 1 1 1 box 2 0 0 1 1 1; part c box 0 1 0 1 1 1 box 2 1 0 1 1 1;"
                + " part d box 1 0 0 1 2 1;");
        due("the first of two rings", two.ring(15, 0, 1), 1);
        due("the first of two rings, then", two.ring(15, 0, 2), 3);
        due("without b the other", two.ring(13, 0, 1), 2);
    }

    private static void missingAndDown() {
        HandsOrder x = Told.of(Told.TOWER);
        due("missing a", x.missing(0), 6);
        due("missing b", x.missing(1), 5);
        due("missing c", x.missing(2), 3);
        due("down a", x.down(0), 1);
        HandsOrder corners = Told.of(Told.CORNERS);
        due("missing, the least of several", Told.of(Told.SHELLS).missing(2), 1);
        due("shells, orders", Told.of(Told.SHELLS).heap(7, 2), 2);
        due("shells, live", Told.of(Told.SHELLS).net(1), 6);
        due("missing in pairs", corners.missing(0), 12);
        due("missing in the other pair", corners.missing(3), 3);
        due("down two", corners.down(0), 2);
        due("down of a single", Told.of("part a box 0 0 0 1 1 1;").down(0), 0);
        due("missing of a single", Told.of("part a box 0 0 0 1 1 1;").missing(0), -1);
        for (int w : new int[] {-1, 3, Integer.MIN_VALUE, Integer.MAX_VALUE}) {
            due("missing " + w, x.missing(w), -1);
            due("down " + w, x.down(w), -1);
        }
    }

    private static void inOne() {
        HandsOrder x = Told.of(Told.TOWER);
        due("a and b", x.inOne(0, 1, 0), 1);
        due("a and c", x.inOne(2, 0, 0), 1);
        due("a and b least", x.inOne(0, 1, 1), 1);
        due("what 2", x.inOne(0, 1, 2), -1);
        due("what -1", x.inOne(0, 1, -1), -1);
        due("the same", x.inOne(1, 1, 0), -1);
        due("part 3", x.inOne(0, 3, 0), -1);
        due("part 3 first", x.inOne(3, 0, 0), -1);
        for (int w : WRONG) {
            due("inOne p " + w, x.inOne(w, 0, 0), -1);
            due("inOne q " + w, x.inOne(0, w, 0), -1);
        }
        HandsOrder two = Told.of(Told.CAGE);
        due("all in one", two.inOne(0, 1, 0), 1);
        due("all in one costs nothing", two.inOne(1, 0, 1), 0);
        HandsOrder four = Told.of(Told.parts(4));
        due("four, two in one", four.inOne(1, 2, 0), 3);
        four.price(6, 50);
        due("four, two in one, least", four.inOne(1, 2, 1), 2);
        due("nothing stays of it", four.heap(15, 2), 15);
    }

    private static void views() {
        HandsOrder x = Told.of("part a box 1 1 1 1 2 3; part b box 0 1 1 1 1 1; part c box 2 1 1 1 2 3;");
        int[] seen = {0, 5, 3, 3, 2, 2};
        for (int way = 0; way < 6; way++) {
            due("view a " + way, x.view(7, 1, way), seen[way]);
        }
        due("the side of a", x.view(7, 1, 6), 1);
        due("view a without c", x.view(3, 1, 0), 6);
        due("the side, the least of several", x.view(7, 4, 6), 0);
        due("view of two", x.view(7, 3, 1), 6);
        HandsOrder cage = Told.of(Told.CAGE);
        due("nothing is seen", cage.view(3, 1, 3), 0);
        due("the side from which nothing is seen", cage.view(3, 1, 6), 0);
        due("view 7", x.view(7, 1, 7), -1);
        due("view all", x.view(7, 7, 0), -1);
        due("view none", x.view(7, 0, 0), -1);
        due("view of another", x.view(3, 4, 0), -1);
        for (int w : WRONG) {
            due("view heap " + w, x.view(w, 1, 0), -1);
            due("view half " + w, x.view(7, w, 0), -1);
            due("view way " + w, x.view(7, 1, w), -1);
        }
    }

    private static void moves() {
        String wall = "part a box 2 2 2 1 1 1; part b box 4 2 2 1 1 1 box 1 2 2 1 1 1 box 2 3 2 1 1 1 box 2 1 2 1 1 1 box 2 2 3 1 1 1 box 2 2 1 1 1 1";
        due("moves 1", Told.of(wall + ";").moves(3, 1), 1);
        String longer = wall + " box 3 1 2 1 1 1 box 3 2 3 1 1 1 box 3 2 1 1 1 1";
        due("moves 1 still", Told.of(longer + ";").moves(3, 1), 1);
        due("moves 2", Told.of(longer + " box 3 5 2 1 1 1;").moves(3, 1), 2);
        due("moves 2 of the other half", Told.of(longer + " box 3 5 2 1 1 1;").moves(3, 2), 2);
        due("a joint does not count", Told.of(longer + " box 3 5 2 1 1 1; joint a b 2 2 1 up;").moves(3, 2), 2);
        due("shut in", Told.of(longer + " box 3 3 2 1 1 1;").moves(3, 1), -1);
        // a tube along x that is shut at both ends and has a hole far from where a is
        String tube = "part a box 1 3 3 1 1 1; part b box 0 3 3 1 1 1 box 7 3 3 1 1 1 box 1 4 3 5 1 1 box 1 2 3 6 1 1 box 1 3 4 6 1 1 box 1 3 2 6 1 1;";
        // a could leave eastwards but for the last cell of its way
        String late = "part a box 0 0 0 1 1 1 box 3 3 3 1 1 1; part b box 7 0 0 1 1 1 box 2 3 3 1 1 1 box 3 4 3 1 1 1 box 3 2 3 1 1 1 box 3 3 4 1 1 1 box 3 3 2 1 1 1;";
        for (int k = 0; k < 6; k++) {
            due("moves to the hole, turned " + k, Told.of(Told.turned(tube, k)).moves(3, 1), 5);
            due("moves of the tube, turned " + k, Told.of(Told.turned(tube, k)).moves(3, 2), 5);
            due("moves before the last cell, turned " + k, Told.of(Told.turned(late, k)).moves(3, 1), 1);
            due("moves before the last cell, the other, turned " + k, Told.of(Told.turned(late, k)).moves(3, 2), 1);
            for (int shift = -1; shift < 4; shift++) {
                String moved = Told.shifted(longer + " box 3 5 2 1 1 1;", shift, Math.min(shift, 2), shift);
                due("moves 2, shifted " + shift + ", turned " + k, Told.of(Told.turned(moved, k)).moves(3, 1), 2);
            }
        }
        HandsOrder x = Told.of(Told.CAGE + "part c box 3 3 7 1 1 1;");
        due("moves in a cage", x.moves(3, 1), -1);
        due("moves of the free one", x.moves(7, 4), 0);
        due("without the cage", x.moves(5, 1), 0);
        due("moves in a cage again", x.moves(3, 1), -1);
        due("moves of the cage", x.moves(3, 2), -1);
        due("moves of the cage without a", x.moves(6, 2), 0);
        due("all", x.moves(7, 7), -1);
        due("none", x.moves(7, 0), -1);
        due("of another", x.moves(3, 4), -1);
        for (int w : WRONG) {
            due("moves heap " + w, x.moves(w, 1), -1);
            due("moves half " + w, x.moves(7, w), -1);
        }
    }

    private static void takingApart() {
        HandsOrder x = Told.of(Told.TOWER);
        due("b up is barred", x.apart(2, 4), -1);
        due("where then", x.where(1), 7);
        due("a and c east", x.apart(5, 0), 2);
        due("where a", x.where(0), 5);
        due("where b", x.where(1), 2);
        due("all of a heap", x.apart(5, 0), -1);
        due("a one", x.apart(2, 0), -1);
        due("of two heaps", x.apart(3, 0), -1);
        due("empty", x.apart(0, 0), -1);
        due("part 3", x.apart(8, 0), -1);
        due("way 6", x.apart(1, 6), -1);
        for (int w : WRONG) {
            due("apart " + w, x.apart(w, 0), -1);
            due("apart way " + w, x.apart(1, w), -1);
            due("where " + w, x.where(w), -1);
        }
        due("c up", x.apart(4, 4), 3);
        due("where c", x.where(2), 4);
        due("where 3", x.where(3), -1);
        due("together", x.together(), 2);
        due("together again", x.together(), 0);
        due("where a", x.where(0), 7);
        HandsOrder joined = Told.of(Told.JOINED);
        due("a joint that is not reached", joined.apart(1, 1), -1);
        due("c leaves", joined.apart(4, 4), 2);
        due("then it is reached", joined.apart(1, 1), 3);
        HandsOrder cage = Told.of(Told.CAGE);
        due("cage", cage.apart(1, 4), -1);
        cage.bent(1, true);
        due("bent cage", cage.apart(1, 4), 2);
        cage.bent(1, false);
        due("it stays apart", cage.where(0), 1);
    }

    private static void swollen() {
        HandsOrder x = Told.of("part a box 0 0 0 1 1 1; part b box 1 2 0 1 1 1; part c box 0 1 0 1 1 1;");
        due("safe as it is", x.safeCut(3, 1, 0), 1);
        due("swollen north", x.swollen(0, 2, true), true);
        due("c has the cell", x.safeCut(3, 1, 0), 1);
        HandsOrder taken = Told.of("part a box 0 0 0 1 1 1; part b box 1 1 0 1 1 1; part c box 0 1 0 1 1 1;");
        taken.swollen(0, 2, true);
        due("c has the cell on b's line", taken.safeCut(3, 1, 0), 1);
        HandsOrder free = Told.of("part a box 0 0 0 1 1 1; part b box 1 1 0 1 1 1; part c box 5 5 5 1 1 1;");
        free.swollen(0, 2, true);
        due("nobody has the cell on b's line", free.safeCut(3, 1, 0), 0);
        due("swollen east", x.swollen(0, 0, true), true);
        due("one farther is not two", x.safeCut(3, 1, 0), 1);
        due("on its way north it is barred", x.safeCut(3, 1, 2), 0);
        due("b on its way south, too", x.safeCut(3, 2, 3), 0);
        due("bars stay", x.bars(0, 2), 4);
        due("cuts stay", x.cut(3, 1, 2), 1);
        due("told again", x.swollen(0, 0, true), false);
        due("west is on the edge", x.swollen(0, 1, true), true);
        due("nothing comes of it", x.safeCut(3, 1, 0), 1);
        due("b swollen south", x.swollen(1, 3, true), true);
        due("c and b", x.safeCut(6, 4, 0), 0);
        due("c and b up", x.safeCut(6, 4, 4), 1);
        due("b is bent", x.bent(1, true), true);
        due("c and the bent b", x.safeCut(6, 4, 0), 1);
        x.bent(1, false);
        due("no more", x.swollen(1, 3, false), true);
        due("c and b again", x.safeCut(6, 4, 0), 1);
        due("not told", x.swollen(1, 3, false), false);
        due("part 3", x.swollen(3, 0, true), false);
        due("way 6", x.swollen(0, 6, true), false);
        for (int w : WRONG) {
            due("swollen part " + w, x.swollen(w, 0, true), false);
            due("swollen way " + w, x.swollen(0, w, true), false);
            due("safeCut heap " + w, x.safeCut(w, 1, 0), -1);
            due("safeCut half " + w, x.safeCut(7, w, 0), -1);
            due("safeCut way " + w, x.safeCut(7, 1, w), -1);
            due("safe " + w, x.safe(w), -1);
        }
        due("safeCut all", x.safeCut(7, 7, 0), -1);
        due("safeCut way 6", x.safeCut(7, 1, 6), -1);
        due("safeCut of another", x.safeCut(3, 4, 0), -1);
    }

    private static void safe() {
        // a plate and another one that stands east of it and over it
        HandsOrder x = Told.of("part a box 0 0 0 2 2 1; part b box 3 0 0 1 2 1 box 0 0 2 2 2 1;");
        due("orders", x.heap(3, 2), 1);
        due("safe orders", x.safe(0), 1);
        due("safe least", x.safe(1), 1);
        due("all of the plan are safe", x.safe(2), -1);
        due("safe 3", x.safe(3), -1);
        x.price(1, 0);
        due("west costs nothing", x.safe(1), 0);
        due("plan west", x.plan(0, 2), 1);
        due("b swollen west", x.swollen(1, 1, true), true);
        due("b swollen north", x.swollen(1, 2, true), true);
        // now b has also 2 0..1 0 (west of it), and y = 2 over its cells: a at z 0 goes north freely, but west too
        due("the plan is safe still", x.safe(2), -1);
        due("a cage has no safe order", Told.of(Told.CAGE).safe(0), 0);
        due("a cage has no safe least", Told.of(Told.CAGE).safe(1), -1);
        HandsOrder loose = Told.of(Told.CAGE);
        loose.bent(1, true);
        due("with the cage bent", loose.safe(0), 1);
        due("with the cage bent, least", loose.safe(1), 1);
        due("with the cage bent, a cut", loose.safeCut(3, 1, 5), 1);
        HandsOrder y = Told.of("part a box 1 1 0 1 1 1; part b box 3 3 0 1 1 1; part c box 5 5 0 1 1 1;");
        due("plan way", y.plan(0, 2), 0);
        y.swollen(1, 3, true);
        y.swollen(0, 0, true);
        // a has also 2 1 0, b also 3 2 0: no line in common
        due("safe still", y.safe(2), -1);
        y.swollen(0, 2, true);
        // a has also 1 2 0, on the line of b's 3 2 0
        due("a east is not safe", y.safeCut(7, 1, 0), 0);
        due("the plan's first cut", y.safe(2), 0);
        due("safe orders", y.safe(0), 3);
        due("safe least", y.safe(1), 2);
        due("a west is safe", y.safeCut(7, 1, 1), 1);
        HandsOrder cage = Told.of("part a box 3 3 3 1 1 1; part b box 4 3 3 1 1 1 box 2 3 3 1 1 1 box 3 4 3 1 1 1 box 3 2 3 1 1 1 box 3 3 2 1 1 1 box 4 3 6 1 1 1;");
        due("up alone", cage.safe(0), 1);
        due("swollen at the way out", cage.swollen(1, 1, true), true);
        due("no safe order", cage.safe(0), 0);
        due("no safe least", cage.safe(1), -1);
        due("orders as ever", cage.heap(3, 2), 1);
        due("the plan's cut is not safe", cage.safe(2), 0);
    }

    private static void oneByOne() {
        due("tower", Told.of(Told.TOWER).oneByOne(7), 3);
        due("a pair", Told.of(Told.TOWER).oneByOne(5), 1);
        due("a one", Told.of(Told.TOWER).oneByOne(2), 1);
        due("four", Told.of(Told.parts(4)).oneByOne(15), 12);
        due("nine", Told.of(Told.parts(9)).oneByOne(511), 181440);
        due("pairs that go apart first", Told.of(Told.CORNERS).oneByOne(15), 0);
        due("cage", Told.of(Told.CAGE).oneByOne(3), 0);
        due("heap 0", Told.of(Told.TOWER).oneByOne(0), -1);
        due("heap 8", Told.of(Told.TOWER).oneByOne(8), -1);
        for (int w : WRONG) {
            due("oneByOne " + w, Told.of(Told.TOWER).oneByOne(w), -1);
        }
    }

    private static void judgedIs(HandsOrder x, String text, int... all) {
        due("record " + text, Told.record(x, text), all[0]);
        for (int what = 0; what < 4; what++) {
            due("judged " + what + " of " + text, x.judged(what), all[what]);
        }
        due("no fault of " + text, x.fault(0), 0);
    }

    private static void records() {
        HandsOrder x = Told.of(Told.JOINED);
        judgedIs(x, "c up; a west;", 2, 2, 0, -1);
        judgedIs(x, "b and a east;a west;", 2, 2, 0, -1);
        judgedIs(x, "a west; c up;", 0, 2, 3, 0);
        judgedIs(x, "c up; a east;", 1, 2, 2, 1);
        judgedIs(x, "c down;", 0, 1, 2, 0);
        judgedIs(x, "c up; c up;", 1, 2, 1, -1);
        judgedIs(x, "a and c and b up;", 0, 1, 1, -1);
        judgedIs(x, "c up; c and a up; a west;", 1, 3, 1, -1);
        judgedIs(x, "", 0, 0, 0, -1);
        due("nothing is changed by it", x.where(0), 7);
        x.apart(4, 4);
        judgedIs(x, "a west;", 0, 1, 3, 0);
        due("judged 4", x.judged(4), -1);
        due("judged -1", x.judged(-1), -1);
        x.bent(1, true);
        judgedIs(x, "c up; a east;", 2, 2, 0, -1);
        HandsOrder many = Told.of(Told.parts(9));
        judgedIs(many, "a and b and c and d and e and f and g and h up;", 1, 1, 0, -1);
        judgedIs(many, "a up;".repeat(16), 1, 16, 1, -1);
        HandsOrder wall = Told.of("part a box 0 0 0 1 1 1; part b box 3 0 0 1 1 1; part c box 1 0 0 1 1 1; part d box 2 0 0 1 1 1;");
        judgedIs(wall, "a and d east;", 0, 1, 2, 1);
        judgedIs(wall, "a and c east;", 0, 1, 2, 1);
    }

    private static void faultyRecord(int which, String marked) {
        HandsOrder x = Told.of(Told.TOWER + " part and box 7 7 7 1 1 1;");
        Told.record(x, "a west;");
        int place = marked.indexOf('^');
        due("record " + marked, Told.record(x, marked.replace("^", "")), -1);
        due("fault of record " + marked, x.fault(0), which);
        due("place in record " + marked, x.fault(1), place);
        due("what was judged stays", x.judged(0), 1);
        due("the tape is empty behind it", x.end(1), false);
    }

    private static void faultyRecords() {
        String[] texts = {"^;", "^up;", "^and a up;", "^1", "^#", "a^", "a ^", "a^;", "a ^b up;", "a and ^up;", "a and ^and up;", "a and^", "a up^", "a up ^up;",
            "a up; ^down;", "a up;^;", "^toolong up;", "a up;\n^A"};
        for (String text : texts) {
            faultyRecord(1, text);
        }
        String[] names = {"^x up;", "a and ^x", "a and b and ^a up;", "^part", "^box up;", "a up; ^joint", "a and ^a"};
        for (String text : names) {
            faultyRecord(2, text);
        }
        faultyRecord(3, "a up;".repeat(16) + "^a");
        faultyRecord(3, "a up;".repeat(16) + " ^b and x");
        faultyRecord(2, "a up;".repeat(16) + "^x up;");
        faultyRecord(1, "a up;".repeat(16) + "^up;");
        HandsOrder x = Told.of(Told.TOWER);
        Told.tell(x, "#");
        x.thing();
        due("a fault of a thing", x.fault(0), 1);
        judgedIs(x, "a west;", 1, 1, 0, -1);
    }

    private static void pulls() {
        HandsOrder x = Told.of("part a box 2 2 2 2 1 1; part b box 0 2 4 6 1 1;");
        due("seen from above, pulled north", x.pull(3, 1, 2, 4), 1);
        due("pulled east", x.pull(3, 1, 0, 4), 4);
        due("pulled west", x.pull(3, 1, 1, 4), 4);
        due("pulled up to where b is", x.pull(3, 1, 4, 4), 2);
        due("pulled down", x.pull(3, 1, 5, 4), -1);
        due("from below", x.pull(3, 1, 5, 5), 0);
        due("from below, pulled up", x.pull(3, 1, 4, 5), 0);
        due("b from below", x.pull(3, 2, 0, 5), 4);
        due("b from below, pulled west", x.pull(3, 2, 1, 5), 4);
        due("b from below, pulled down", x.pull(3, 2, 5, 5), 2);
        // one cell behind another from each side: it must be pulled aside by one, or to where the other is
        for (int side = 0; side < 6; side++) {
            int[] at = {3, 3, 3};
            at[side / 2] += side % 2 == 0 ? -2 : 2;
            HandsOrder y = Told.of("part a box " + at[0] + " " + at[1] + " " + at[2] + " 1 1 1; part b box 3 3 3 1 1 1;");
            for (int way = 0; way < 6; way++) {
                int due = way / 2 != side / 2 ? 1 : way == side ? 2 : -1;
                due("pull behind, side " + side + " way " + way, y.pull(3, 1, way, side), due);
                due("pull ahead, side " + side + " way " + way, y.pull(3, 2, way, side), 0);
                due("view behind, side " + side, y.view(3, 1, side), 0);
                due("view ahead, side " + side, y.view(3, 2, side), 1);
                due("view from the other side " + side, y.view(3, 1, side ^ 1), 1);
            }
        }
        HandsOrder edge = Told.of("part a box 7 0 0 1 1 1; part b box 0 0 0 1 1 1 box 7 0 7 1 1 1;");
        due("beyond the edge", edge.pull(3, 1, 0, 4), 1);
        due("from the west", edge.pull(3, 1, 1, 1), 7);
        due("from the west, pulled away", edge.pull(3, 1, 0, 1), -1);
        due("from the west, pulled aside beyond the edge", edge.pull(3, 1, 3, 1), 1);
        HandsOrder own = Told.of("part a box 0 0 0 1 1 1 box 2 0 0 1 1 1; part b box 1 0 0 1 1 1;");
        due("the first one of the half is ahead", own.pull(3, 1, 4, 0), 0);
        due("b is behind", own.pull(3, 2, 0, 0), 1);
        due("way 6", x.pull(3, 1, 6, 0), -1);
        due("side 6", x.pull(3, 1, 0, 6), -1);
        due("all", x.pull(3, 3, 0, 0), -1);
        due("none", x.pull(3, 0, 0, 0), -1);
        for (int w : WRONG) {
            due("pull heap " + w, x.pull(w, 1, 0, 0), -1);
            due("pull half " + w, x.pull(3, w, 0, 0), -1);
            due("pull way " + w, x.pull(3, 1, w, 0), -1);
            due("pull side " + w, x.pull(3, 1, 0, w), -1);
        }
    }

    private static void likes() {
        HandsOrder x = Told.of("part a box 0 0 0 2 1 1 box 0 1 0 1 1 1 box 0 0 1 1 1 1; part b box 6 5 6 2 1 1 box 7 6 6 1 1 1 box 7 5 7 1 1 1;"
                + " part c box 4 0 0 2 1 1 box 4 1 0 1 1 1 box 4 0 1 1 1 1; part d box 0 4 0 3 1 1; part e box 0 6 0 1 1 3; part f box 4 4 0 2 1 1;");
        int[] ab = {0, 1, 0, 0};
        int[] ac = {1, 0, 0, 0};
        for (int what = 0; what < 4; what++) {
            due("like a b " + what, x.like(0, 1, what), ab[what]);
            due("like b a " + what, x.like(1, 0, what), ab[what]);
            due("like a c " + what, x.like(0, 2, what), ac[what]);
            due("like d d " + what, x.like(3, 3, what), 1);
            due("not turned d e " + what, x.like(3, 4, what), 0);
            due("shorter d f " + what, x.like(3, 5, what), 0);
            due("like a a " + what, x.like(0, 0, what), ac[what]);
        }
        due("what 4", x.like(0, 1, 4), -1);
        due("part 6", x.like(0, 6, 0), -1);
        for (int w : WRONG) {
            due("like p " + w, x.like(w, 0, 0), -1);
            due("like q " + w, x.like(0, w, 0), -1);
            due("like what " + w, x.like(0, 0, w), -1);
            due("mirrored p " + w, x.mirrored(w, 0), -1);
            due("mirrored axis " + w, x.mirrored(0, w), -1);
        }
        due("mirrored part 6", x.mirrored(6, 0), -1);
        due("mirrored axis 3", x.mirrored(0, 3), -1);
        for (int axis = 0; axis < 3; axis++) {
            due("mirrored a " + axis, x.mirrored(0, axis), 1);
            due("mirrored d " + axis, x.mirrored(3, axis), 0);
        }
        HandsOrder y = Told.of("part a box 5 5 5 2 1 1 box 5 6 5 1 1 1; part b box 6 6 5 1 1 1;");
        due("b is in the way", y.mirrored(0, 0), 0);
        due("b is in the way in y", y.mirrored(0, 1), 0);
        due("it is its own mirror in z", y.mirrored(0, 2), 0);
        HandsOrder z = Told.of("part a box 5 5 5 2 1 1 box 5 6 5 1 1 1; part b box 2 6 5 1 1 1;");
        due("turned within its own bounds", z.mirrored(0, 0), 1);
    }

    private static void times() {
        HandsOrder x = Told.of(Told.TOWER);
        due("c up", x.minutes(7, 4, 4), 0);
        due("c east", x.minutes(7, 4, 0), 0);
        due("b east", x.minutes(7, 2, 0), 1);
        due("a and c east", x.minutes(7, 5, 0), 0);
        due("alone", x.time(7, 0), 0);
        due("by two", x.time(7, 1), 0);
        // a peg in a deep hole that is open above: none of the hole's cells is within the peg's bounds
        HandsOrder peg = Told.of("part a box 1 1 1 1 1 3; part b box 0 0 0 3 3 1 box 0 0 1 1 3 4 box 2 0 1 1 3 4 box 1 0 1 1 1 4 box 1 2 1 1 1 4;");
        due("the peg out of the hole", peg.minutes(3, 1, 4), 4);
        due("the hole from the peg", peg.minutes(3, 2, 5), 0);
        due("not good", peg.minutes(3, 1, 0), -1);
        due("the better half", peg.time(3, 0), 0);
        // a hook in an eye, three thick: they part northwards or southwards alone
        String hook = "part a box 1 0 0 1 3 1 box 1 0 1 3 3 1; part b box 2 0 0 1 3 1 box 2 0 2 1 3 1 box 0 0 2 2 3 1 box 0 0 0 1 3 2;";
        HandsOrder y = Told.of(hook);
        due("the hook", y.minutes(3, 1, 2), 3);
        due("the eye", y.minutes(3, 2, 3), 3);
        due("alone", y.time(3, 0), 3);
        due("by two", y.time(3, 1), 3);
        due("a one", y.time(1, 0), 0);
        HandsOrder two = Told.of(hook + " part c box 5 5 0 1 2 1 box 5 5 1 3 2 1; part d box 6 5 0 1 2 1 box 6 5 2 1 2 1 box 4 5 2 2 2 1 box 4 5 0 1 2 2;");
        due("the second hook", two.minutes(12, 4, 2), 2);
        due("both pairs, alone", two.time(15, 0), 5);
        due("both pairs, by two", two.time(15, 1), 3);
        due("the cage has none", Told.of(Told.CAGE).time(3, 0), -1);
        due("the cage has none by two", Told.of(Told.CAGE).time(3, 1), -1);
        due("what 2", x.time(7, 2), -1);
        due("heap 8", x.time(8, 0), -1);
        due("heap 0", x.time(0, 0), -1);
        due("minutes way 6", x.minutes(7, 1, 6), -1);
        due("minutes all", x.minutes(7, 7, 0), -1);
        due("minutes none", x.minutes(7, 0, 0), -1);
        due("minutes of another", x.minutes(3, 4, 0), -1);
        for (int w : WRONG) {
            due("time heap " + w, x.time(w, 0), -1);
            due("time what " + w, x.time(7, w), -1);
            due("minutes heap " + w, x.minutes(w, 1, 0), -1);
            due("minutes half " + w, x.minutes(7, w, 0), -1);
            due("minutes way " + w, x.minutes(7, 1, w), -1);
        }
        y.bent(0, true);
        due("bent, it goes on the shortest way", y.time(3, 0), 2);
    }

    public static void main(String[] args) {
        newObject();
        feedAndEnd();
        faultsOfForm();
        otherFaults();
        things();
        newThingStartsAnew();
        cells();
        bars();
        pricesAndPlan();
        pricesAtFirst();
        planGoesIntoTheHalfFirst();
        bent();
        cuts();
        heapsAndNet();
        deadEnds();
        hands();
        rings();
        missingAndDown();
        inOne();
        views();
        moves();
        takingApart();
        swollen();
        safe();
        oneByOne();
        records();
        faultyRecords();
        pulls();
        likes();
        times();
        System.out.println(wrong == 0 ? "all promises hold" : wrong + " answers are not as due");
        System.exit(wrong == 0 ? 0 : 1);
    }
}
