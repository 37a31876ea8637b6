/** Promises 1 to 6: the tape, a thing's text and its faults, cells. */
final class TextBoundaries {
    private static final String WIDEST = "part a box 0 0 0 8 8 8;";
    private static final int HASH_AND_BLANKS = 0x23202020;
    private static final int BLANKS = 0x20202020;

    private final Sentences s;

    TextBoundaries(Sentences s) {
        this.s = s;
    }

    void test() {
        newObject();
        feed();
        end();
        thing();
        tokens();
        faultOne();
        faultsTwoAndThree();
        faultsFourAndFive();
        faultOrder();
        fault();
        cell();
    }

    private void newObject() {
        s.holds(1, "No THING.", () -> {
            HandsOrder x = new HandsOrder();
            s.row("net", x::net, 0, 0, 0, 0, 0, 0, -1);
            s.row("fault", x::fault, 0, -1, -1);
            s.row("safe", x::safe, 0, -1, -1, -1);
            s.row("judged", x::judged, -1, -1, -1, -1, -1);
            s.row("where", x::where, -1, -1);
            s.row("missing", x::missing, -1, -1);
            s.row("down", x::down, -1, -1);
            s.row("holding", x::holding, -1, -1);
            s.row("oneByOne", x::oneByOne, -1, -1);
            s.row("heap 0", what -> x.heap(0, what), -1, -1, -1, -1, -1, -1, -1, -1);
            s.row("heap 1", what -> x.heap(1, what), -1, -1, -1, -1, -1, -1, -1, -1);
            s.row("plan 0", what -> x.plan(0, what), -1, -1, -1);
            s.row("bars 0", way -> x.bars(0, way), -1, -1, -1, -1, -1, -1);
            s.row("time 1", what -> x.time(1, what), -1, -1);
            s.row("like 0 0", what -> x.like(0, 0, what), -1, -1, -1, -1);
            s.row("mirrored 0", axis -> x.mirrored(0, axis), -1, -1, -1);
        });
        s.holds(1, "HandsOrder()", () -> {
            HandsOrder x = new HandsOrder();
            s.due("cell", x.cell(0, 0, 0), -1);
            s.due("bent", x.bent(0, true), false);
            s.due("bent, not so", x.bent(0, false), false);
            s.due("swollen", x.swollen(0, 0, true), false);
            s.due("cut", x.cut(1, 1, 0), -1);
            s.due("cut of nothing", x.cut(0, 0, 0), -1);
            s.due("safeCut", x.safeCut(3, 1, 0), -1);
            s.due("ring", x.ring(1, 0, 0), -1);
            s.due("inOne", x.inOne(0, 1, 0), -1);
            s.due("view", x.view(3, 1, 6), -1);
            s.due("moves", x.moves(3, 1), -1);
            s.due("pull", x.pull(3, 1, 0, 0), -1);
            s.due("minutes", x.minutes(3, 1, 0), -1);
            s.due("apart", x.apart(1, 0), -1);
            s.due("together", x.together(), 0);
            s.due("price", x.price(0, 2), true);
            s.due("end 0 of an empty tape", x.end(0), true);
            s.due("end 1 of an empty tape", x.end(1), false);
            s.due("a text with a part's name", Told.record(x, "a up;"), -1);
            s.due("its fault", x.fault(0), 2);
        });
        s.holds(1, "An object is used for at most 512 calls after it has been made", () -> {
            HandsOrder x = new HandsOrder();
            for (int[] n : Told.numbers(Told.CAGE)) {
                x.feed(n[0], n[1], n[2], n[3], n[4]);
            }
            x.end(Told.CAGE.length());
            s.due("thing", x.thing(), 2);
            int calls = Told.numbers(Told.CAGE).length + 2;
            for (boolean is = true; calls < 510; calls += 2) {
                s.due("bent at call " + calls, x.bent(1, is), true);
                s.due("orders then", x.heap(3, 2), is ? 1 : 0);
                is = !is;
            }
            for (; calls < 512; calls++) {
                s.due("call " + calls, x.cell(3, 3, 3), 0);
            }
        });
    }

    /** Twenty bytes with one of them other than blank: the place of the fault tells where it came to. */
    private static int feedOne(HandsOrder x, int place, int sign) {
        StringBuilder text = new StringBuilder(" ".repeat(20));
        text.setCharAt(place, (char) sign);
        int[] n = Told.numbers(text.toString())[0];
        return x.feed(n[0], n[1], n[2], n[3], n[4]);
    }

    private void feed() {
        s.holds(2, "Twenty bytes come behind the TAPE", () -> {
            for (int k = 0; k < 20; k++) {
                HandsOrder x = new HandsOrder();
                x.feed(BLANKS, BLANKS, BLANKS, BLANKS, BLANKS);
                s.due("feed behind twenty", feedOne(x, k, '#'), 40);
                s.due("thing", x.thing(), -1);
                s.due("the place of byte " + k, x.fault(1), 20 + k);
            }
        });
        s.holds(2, "of each number the highest first", () -> {
            HandsOrder x = new HandsOrder();
            // part a box 1 2 3 1 1 1;#
            x.feed(0x70617274, 0x20612062, 0x6f782031, 0x20322033, 0x20312031);
            x.feed(0x20313b23, 0, 0, 0, 0);
            x.end(23);
            s.due("thing", x.thing(), 1);
            s.due("its cell", x.cell(1, 2, 3), 0);
            for (int sign = 0; sign < 256; sign++) {
                for (int place : new int[] {0, 19}) {
                    HandsOrder y = new HandsOrder();
                    feedOne(y, place, sign);
                    boolean blank = sign == 32 || sign == 10;
                    s.due("thing of byte " + sign, y.thing(), blank ? 0 : -1);
                    s.due("place of byte " + sign, y.fault(1), blank ? -1 : place);
                }
            }
        });
        s.holds(2, "how many it has", () -> {
            HandsOrder x = new HandsOrder();
            for (int n = 1; n <= 40; n++) {
                s.due("feed " + n, x.feed(-1, 0, 1, Integer.MIN_VALUE, Integer.MAX_VALUE), 20 * n);
            }
        });
        s.holds(2, "NONE, and nothing comes, if there would be more than 800", () -> {
            HandsOrder x = new HandsOrder();
            for (int n = 1; n <= 40; n++) {
                x.feed(BLANKS, BLANKS, BLANKS, BLANKS, BLANKS);
            }
            s.due("feed at 800", x.feed(HASH_AND_BLANKS, 0, 0, 0, 0), -1);
            s.due("the tape has no more", x.end(801), false);
            for (int n = 799; n > 780; n--) {
                s.due("end " + n, x.end(n), true);
                s.due("feed at " + n, x.feed(HASH_AND_BLANKS, 0, 0, 0, 0), -1);
                s.due("nothing came at " + n, x.end(n + 1), false);
            }
            s.due("end 780", x.end(780), true);
            s.due("feed at 780", x.feed(BLANKS, BLANKS, BLANKS, BLANKS, BLANKS), 800);
            s.due("no # came", x.thing(), 0);
            s.due("feed behind it", x.feed(0, 0, 0, 0, 0), 20);
        });
    }

    private void end() {
        s.holds(3, "The TAPE has its first n bytes alone: true", () -> {
            HandsOrder x = new HandsOrder();
            feedOne(x, 10, '#');
            feedOne(x, 5, ';');
            s.due("end of all", x.end(40), true);
            s.due("end of 26", x.end(26), true);
            s.due("the bytes before stay", x.end(11), true);
            s.due("feed behind 11", feedOne(x, 3, ';'), 31);
            s.due("thing", x.thing(), -1);
            s.due("the first of them stayed", x.fault(1), 10);
            feedOne(x, 10, '#');
            s.due("end of 10", x.end(10), true);
            s.due("feed behind 10", feedOne(x, 3, ';'), 30);
            x.thing();
            s.due("what was cut off is gone", x.fault(1), 13);
            feedOne(x, 0, '#');
            s.due("end of 0", x.end(0), true);
            s.due("end of 0 again", x.end(0), true);
            s.due("an empty text", x.thing(), 0);
        });
        s.holds(3, "false, changing nothing, if it has not so many", () -> {
            HandsOrder x = new HandsOrder();
            s.due("end 1 of nothing", x.end(1), false);
            feedOne(x, 19, '#');
            s.each("end", new int[] {21, 40, 800, 801, Integer.MAX_VALUE}, n -> Sentences.of(x.end(n)), 0);
            s.due("thing", x.thing(), -1);
            s.due("the place", x.fault(1), 19);
            s.due("end 1 of what thing() left", x.end(1), false);
        });
        s.holds(3, "or n is below 0", () -> {
            HandsOrder x = new HandsOrder();
            s.due("end -1 of nothing", x.end(-1), false);
            feedOne(x, 19, '#');
            s.each("end", new int[] {-1, -20, Integer.MIN_VALUE}, n -> Sentences.of(x.end(n)), 0);
            s.due("feed behind it", feedOne(x, 0, ' '), 40);
            x.thing();
            s.due("the place", x.fault(1), 19);
        });
    }

    /** What a text that is taken sets back, told as something else before. */
    private static HandsOrder used() {
        HandsOrder x = Told.of(Told.JOINED);
        x.bent(1, true);
        x.swollen(2, 3, true);
        x.price(0, 7);
        x.apart(4, 4);
        Told.record(x, "c up; a east;");
        return x;
    }

    private void staysUsed(HandsOrder x) {
        s.row("net", x::net, 5, 5, 0, 3, 2, 7);
        s.due("cell of a", x.cell(0, 0, 0), 0);
        s.due("cell of c", x.cell(0, 0, 3), 2);
        s.due("b is bent", x.bent(1, true), false);
        s.due("a is not", x.bent(0, false), false);
        s.due("c is swollen south", x.swollen(2, 3, true), false);
        s.due("where a is", x.where(0), 3);
        s.due("where c is", x.where(2), 4);
        s.row("judged", x::judged, 2, 2, 0, -1);
        s.due("a leaves b", x.cut(3, 1, 0), 1);
        s.due("the joint below c", x.cut(7, 1, 0), 0);
        s.due("the price of east", x.plan(0, 2), 1);
    }

    private void thing() {
        s.holds(4, "The TAPE, empty then", () -> {
            HandsOrder x = Told.of(Told.TOWER);
            s.due("end 1", x.end(1), false);
            s.due("feed", feedOne(x, 0, '#'), 20);
            s.due("a fault", x.thing(), -1);
            s.due("end 1 behind a fault", x.end(1), false);
            s.due("feed behind a fault", feedOne(x, 0, ' '), 20);
        });
        s.holds(4, "is THE THING (nobody BENT)", () -> {
            HandsOrder x = used();
            s.due("thing", Told.thing(x, Told.JOINED), 3);
            for (int p = 0; p < 3; p++) {
                s.due("nobody is bent", x.bent(p, false), false);
            }
            s.due("bars b east", x.bars(0, 0), 2);
            s.due("the tower's cells are gone", Told.thing(x, Told.ONE_CELL), 1);
            s.due("cell of c", x.cell(0, 0, 3), -1);
            s.due("cell of b", x.cell(1, 0, 0), -1);
            s.due("joints", x.net(4), 0);
            s.due("an empty text", Told.thing(x, ""), 0);
            s.due("cell of a", x.cell(0, 0, 0), -1);
            s.due("joints of it", x.net(4), 0);
            s.due("a part elsewhere", Told.thing(x, "part a box 7 7 7 1 1 1;"), 1);
            s.due("where it was", x.cell(0, 0, 0), -1);
        });
        s.holds(4, "is THE THING", this::nothingStaysOfAnother);
        s.holds(4, "how many PARTS", () -> {
            s.due("an empty text", Told.thing(new HandsOrder(), ""), 0);
            s.due("blanks alone", Told.thing(new HandsOrder(), " \n\n "), 0);
            for (int n = 1; n <= 9; n++) {
                s.due(n + " parts", Told.thing(new HandsOrder(), Told.parts(n)), n);
            }
        });
        s.holds(4, "NONE: a FAULT (it stays as it was)", () -> {
            HandsOrder x = used();
            s.due("a fault at the begin", Told.thing(x, "#"), -1);
            staysUsed(x);
            s.due("a fault at the end", Told.thing(x, Told.TOWER + "part d box 7 7 7 1 1 1"), -1);
            staysUsed(x);
            s.due("a fault in a joint", Told.thing(x, "part q box 0 0 3 1 1 1; part r box 0 0 4 1 1 1; joint q r 0 0 8 up;"), -1);
            staysUsed(x);
        });
        s.holds(4, "A THING is a TEXT (none at first)", () -> {
            StringBuilder text = new StringBuilder("part a" + Told.boxes(16) + ";");
            for (int p = 1; p < 9; p++) {
                text.append("part ").append((char) ('a' + p)).append(" box 7 ").append(p - 1).append(" 7 1 1 1;");
            }
            text.append(Told.joints(8));
            HandsOrder x = new HandsOrder();
            s.due("9 parts, 8 joints, 24 boxes", Told.thing(x, text.toString()), 9);
            s.due("its joints", x.net(4), 8);
            String full = " ".repeat(800 - WIDEST.length()) + WIDEST;
            s.due("a text of 800 bytes", Told.thing(x, full), 1);
            s.due("it lacks its last byte", Told.thing(x, full.substring(1, 800).replace(';', ' ')), -1);
            s.due("the end", x.fault(1), 799);
            s.due("the last byte is wrong", Told.thing(x, full.replace(';', '#')), -1);
            s.due("its place", x.fault(1), 799);
            s.due("800 blanks", Told.thing(x, " ".repeat(800)), 0);
        });
    }

    /** Each question, asked alone or behind others, of a new object or of one that had another thing, has the same answer. */
    private void nothingStaysOfAnother() {
        String[] texts = {Told.parts(9), CutBoundaries.CAGE_AND_FREE, Told.TOWER, ApartBoundaries.HUG, Told.DEEP, CutBoundaries.POLE, Told.CORNERS,
            Told.WHEEL, Told.SHELLS};
        HandsOrder before = used();
        for (String text : texts) {
            HandsOrder used = before;
            HandsOrder fresh = priced(new HandsOrder());
            int parts = Told.thing(fresh, text);
            s.due("thing behind another", Told.thing(priced(used), text), parts);
            for (Answers.Question q : Answers.questions(parts)) {
                HandsOrder alone = priced(new HandsOrder());
                Told.thing(alone, text);
                long due = q.asked().applyAsLong(alone);
                s.due(q.call() + " behind others", q.asked().applyAsLong(fresh), due);
                s.due(q.call() + " behind another thing", q.asked().applyAsLong(used), due);
            }
            before = fresh;
        }
    }

    private static HandsOrder priced(HandsOrder x) {
        x.price(0, 3);
        x.price(6, 5);
        return x;
    }

    /** The place of the fault is where ^ stands in the text. */
    private void faulty(int which, String... texts) {
        for (String marked : texts) {
            HandsOrder x = Told.of(Told.TOWER);
            s.due("thing of " + marked, Told.thing(x, marked.replace("^", "")), -1);
            s.due("fault of " + marked, x.fault(0), which);
            s.due("place in " + marked, x.fault(1), marked.indexOf('^'));
            s.due("parts behind " + marked, x.net(3), 3);
        }
    }

    private void taken(int parts, String... texts) {
        for (String text : texts) {
            HandsOrder x = new HandsOrder();
            s.due("thing of " + text, Told.thing(x, text), parts);
            s.due("fault of " + text, x.fault(0), 0);
        }
    }

    private void tokens() {
        s.holds(4, "NAMES (1 to 6 letters) or none", () -> {
            taken(1, "part a box 0 0 0 1 1 1;", "part z box 0 0 0 1 1 1;", "part zzzzzz box 0 0 0 1 1 1;", "part boxes box 0 0 0 1 1 1;");
            taken(3, "part zzzzzz box 0 0 0 1 1 1; part zzzzzy box 1 0 0 1 1 1; part yzzzzz box 2 0 0 1 1 1;",
                    "part a box 0 0 0 1 1 1; part aa box 1 0 0 1 1 1; part aaa box 2 0 0 1 1 1; joint aaa a 0 0 0 up;");
            faulty(1, "part ^sevenle box 0 0 0 1 1 1;", "part ^aaaaaaaaaaaaaaaaaaaaaaaaaa box 0 0 0 1 1 1;", "part ^`", "part ^{", "part ^A",
                    "part ^Z", "part a^Z", "^partpart", Told.TWO_CELLS + "joint a ^bbbbbbb");
        });
        s.holds(4, "small letters as many as stand together are KEYWORDS (part, box, joint, the WAYS' names)", () -> {
            faulty(1, "^parta box", "^par", "^Part", "part a ^boxbox", "part a ^bo", "part a ^boxes", "^jointa", "part ^part", "part ^box", "part ^joint",
                    "part ^east", "part ^west", "part ^north", "part ^south", "part ^up", "part ^down");
            faulty(1, Told.TWO_CELLS + "joint a b 0 0 0 ^upp;", Told.TWO_CELLS + "joint a b 0 0 0 ^u;", Told.TWO_CELLS + "joint ^up b");
            taken(6, "part partx box 0 0 0 1 1 1; part eas box 1 0 0 1 1 1; part eastx box 2 0 0 1 1 1; part u box 3 0 0 1 1 1; part upp box 4 0 0 1 1 1;"
                    + "part bo box 5 0 0 1 1 1;");
            faulty(1, "^cart a box", "^parx a box", "part a ^fox 0", "part a ^boy 0", "^point a", "^joins a");
            taken(9, "part cart box 0 0 0 1 1 1; part fox box 1 0 0 1 1 1; part point box 2 0 0 1 1 1; part fast box 3 0 0 1 1 1; part rest box 4 0 0 1 1 1;"
                    + "part forth box 5 0 0 1 1 1; part mouth box 6 0 0 1 1 1; part op box 7 0 0 1 1 1; part town box 0 1 0 1 1 1;");
            taken(8, "part boy box 0 0 0 1 1 1; part eask box 1 0 0 1 1 1; part wesk box 2 0 0 1 1 1; part nortk box 3 0 0 1 1 1;"
                    + "part soutk box 4 0 0 1 1 1; part us box 5 0 0 1 1 1; part dowk box 6 0 0 1 1 1; part joins box 7 0 0 1 1 1;");
            for (String way : Model.WAYS) {
                taken(2, Told.TWO_CELLS + "joint a b 0 0 0 " + way + ";");
            }
        });
        s.holds(4, "digits as many as stand together NUMBERS of 1 to 3 digits or none", () -> {
            taken(1, "part a box 0 00 000 1 01 001;", "part a box 7 07 007 1 1 1;");
            s.due("007 is 7", Told.of("part a box 007 07 7 001 01 1;").cell(7, 7, 7), 0);
            faulty(1, "part a box ^0000 0 0 1 1 1;", "part a box 0 0 0 ^0001 1 1;", "part a box 0 0 0 1 1 ^1000;", "part a box ^99999999999 0 0 1 1 1;",
                    "part a box ^4294967296 0 0 1 1 1;", "part a box ^/", "part a box ^:", "part a box ^-1", Told.TWO_CELLS + "joint a b 0 ^0000 0 up;");
            faulty(4, "part a box ^999 0 0 1 1 1;", "part a box 0 0 0 ^999 1 1;", Told.TWO_CELLS + "joint a b 0 0 ^999 up;");
        });
        s.holds(4, "Blanks (32, 10) between", () -> {
            taken(2, "\n part\na\n\nbox 0\n0 0 1 1 1 ;\n part b box 1 0 0 1 1 1;joint a b 0 0 0 up ; \n",
                    "part a box0 0 0 1 1 1box 0 0 0 1 1 1;part b box 1 0 0 1 1 1;joint a b0 0 0up;");
            for (int sign : new int[] {0, 9, 11, 12, 13, 31, 33, 127, 138, 160, 255}) {
                faulty(1, "^" + (char) sign + Told.ONE_CELL, "part^" + (char) sign + "a", Told.ONE_CELL + "^" + (char) sign);
            }
        });
        s.holds(4, "(and is a NAME in a THING.)", () -> taken(2, "part and box 0 0 0 1 1 1; part a box 1 0 0 1 1 1; joint and a 0 0 0 up;"));
    }

    private void faultOne() {
        s.holds(4, "1 what can't stand there", () -> {
            faulty(1, "^x", "^;", "^7", "^box", "^and", "^up", "^#", "part a^;", "part a ^joint", "part a^1", "part a box ^;", "part a box ^box",
                    "part a box 1 ^x", "part a box 0 0 0 1 1 ^;", "part a box 0 0 0 1 1 1 ^1;", "part a box 0 0 0 1 1 1 ^joint",
                    "part a box 0 0 0 1 1 1 ^part", "part a box 0^,0", "part a box 0 0 0 1 1 1;^;", "part ^1", "part ^;");
            faulty(1, Told.TWO_CELLS + "joint ^;", Told.TWO_CELLS + "joint ^1", Told.TWO_CELLS + "joint a ^;", Told.TWO_CELLS + "joint a b ^up",
                    Told.TWO_CELLS + "joint a b ^;", Told.TWO_CELLS + "joint a b 0 ^;", Told.TWO_CELLS + "joint a b 0 0 ^;",
                    Told.TWO_CELLS + "joint a b 0 0 ^up", Told.TWO_CELLS + "joint a b 0 0 0 ^;", Told.TWO_CELLS + "joint a b 0 0 0 ^0",
                    Told.TWO_CELLS + "joint a b 0 0 0 up ^part", Told.TWO_CELLS + "joint a b 0 0 0 up^1;", Told.TWO_CELLS + "^;");
        });
        s.holds(4, "(the end: the text's length)", () -> {
            for (String blanks : new String[] {"", " ", "\n  \n"}) {
                for (String text : new String[] {"part", "part a", "part a box", "part a box 0", "part a box 0 0 0 1 1", "part a box 0 0 0 1 1 1"}) {
                    faulty(1, text + blanks + "^");
                }
                for (String text : new String[] {"joint", "joint a", "joint a b", "joint a b 0", "joint a b 0 0", "joint a b 0 0 0", "joint a b 0 0 0 up"}) {
                    faulty(1, Told.TWO_CELLS + text + blanks + "^");
                }
            }
        });
    }

    private void faultsTwoAndThree() {
        s.holds(4, "2 (at a NAME) a part has it already", () -> {
            faulty(2, Told.ONE_CELL + "part ^a", Told.ONE_CELL + "part ^a box 1 0 0 1 1 1;", Told.TWO_CELLS + "part ^a", Told.TWO_CELLS + "part ^b",
                    Told.parts(8) + "part ^h", "part zzzzzz box 0 0 0 1 1 1; part ^zzzzzz");
        });
        s.holds(4, "in a joint: no part told ahead has it", () -> faulty(2, "joint ^a b", Told.ONE_CELL + "joint a ^b", Told.ONE_CELL + "joint ^b a",
                Told.TWO_CELLS + "joint ^c d", Told.TWO_CELLS + "joint ^c c", Told.ONE_CELL + "joint a ^b 0 0 0 up; part b box 1 0 0 1 1 1;",
                Told.TWO_CELLS + "joint a ^and"));
        s.holds(4, "or both are the same", () -> faulty(2, Told.ONE_CELL + "joint a ^a", Told.TWO_CELLS + "joint a ^a 0 0 0 up;", Told.TWO_CELLS + "joint b ^b",
                Told.parts(9) + "joint i ^i"));
        s.holds(4, "3 (at its KEYWORD) the 10th part", () -> {
            taken(9, Told.parts(9));
            faulty(3, Told.parts(9) + "^part", Told.parts(9) + "^part a", Told.parts(9) + "^part j box 7 7 7 1 1 1;", Told.parts(9) + "\n ^part 1");
        });
        s.holds(4, "the 9th joint", () -> {
            taken(2, Told.TWO_CELLS + Told.joints(8));
            faulty(3, Told.TWO_CELLS + Told.joints(8) + "^joint", Told.TWO_CELLS + Told.joints(8) + "^joint a b 0 0 0 up;",
                    Told.TWO_CELLS + Told.joints(8) + "part c box 2 0 0 1 1 1; ^joint c c");
        });
        s.holds(4, "the 25th box of all", () -> {
            taken(1, "part a" + Told.boxes(24) + ";");
            taken(2, "part b box 1 0 0 1 1 1; part a" + Told.boxes(23) + ";");
            faulty(3, "part a" + Told.boxes(24) + "^box", "part a" + Told.boxes(24) + "^box 0 0 0 1 1 1;", "part b box 1 0 0 1 1 1; part a" + Told.boxes(23)
                    + "^box 0 0 0 1 1 1;", "part a" + Told.boxes(24) + "; part b ^box 1 0 0 1 1 1;");
        });
    }

    private void faultsFourAndFive() {
        s.holds(4, "4 (at a NUMBER) a CELL's number above 7", () -> {
            taken(1, "part a box 7 7 7 1 1 1;", "part a box 0 0 0 1 1 1;");
            taken(2, Told.TWO_CELLS + "joint a b 7 7 7 up;", Told.TWO_CELLS + "joint a b 0 0 0 up;");
            faulty(4, "part a box ^8 0 0 1 1 1;", "part a box 0 ^8 0 1 1 1;", "part a box 0 0 ^8 1 1 1;", "part a box ^256 0 0 1 1 1;", "part a box 0 ^8");
            faulty(4, Told.TWO_CELLS + "joint a b ^8 0 0 up;", Told.TWO_CELLS + "joint a b 0 ^8 0 up;", Told.TWO_CELLS + "joint a b 0 0 ^8 up;",
                    Told.TWO_CELLS + "joint a b ^256", Told.TWO_CELLS + "joint a b 0 0 ^9");
        });
        s.holds(4, "a length 0 or beyond 7", () -> {
            taken(1, WIDEST, "part a box 0 0 0 8 1 1;", "part a box 1 1 1 7 7 7;", "part a box 7 6 5 1 2 3;");
            faulty(4, "part a box 0 0 0 ^0 1 1;", "part a box 0 0 0 1 ^0 1;", "part a box 0 0 0 1 1 ^0;", "part a box 0 0 0 1 1 ^000");
            faulty(4, "part a box 0 0 0 ^9 1 1;", "part a box 0 0 0 1 ^9 1;", "part a box 0 0 0 1 1 ^9;", "part a box 1 0 0 ^8 1 1;", "part a box 0 1 0 1 ^8 1;",
                    "part a box 0 0 1 1 1 ^8;", "part a box 7 0 0 ^2 1 1;", "part a box 0 6 0 1 ^3 1;", "part a box 0 0 5 1 1 ^4;", "part a box 7 0 0 ^256 1 1;");
        });
        s.holds(4, "5 (at box) a CELL that a part told ahead has", () -> {
            faulty(5, Told.ONE_CELL + "part b ^box 0 0 0 1 1 1;", Told.ONE_CELL + "part b box 1 0 0 1 1 1 ^box 0 0 0 8 8 8;",
                    "part a box 7 7 7 1 1 1; part b ^box 0 0 0 8 8 8",
                    "part a box 0 0 0 8 8 8; part b ^box 7 0 7 1 1 1", Told.ONE_CELL + "part b box 1 0 0 1 1 1 ^box 0 0 0 1 1 1 box 9");
            faulty(5, "part a box 2 2 2 2 2 2; part b ^box 3 3 3 1 1 1;", "part a box 2 2 2 1 1 1 box 5 5 5 1 1 1; part b box 2 2 3 1 1 1 ^box 4 4 4 2 2 2;",
                    Told.parts(8) + "part i ^box 7 0 0 1 1 1;");
            // beside, behind and above the other one, and its corners: no cell in common
            taken(2, "part a box 2 2 2 2 2 2; part b box 0 0 0 2 8 8 box 4 0 0 4 8 8 box 0 0 0 8 2 8 box 0 4 0 8 4 8 box 0 0 0 8 8 2 box 0 0 4 8 8 4;");
        });
        s.holds(4, "(CELLS of one part may be told twice)", () -> taken(1, "part a box 0 0 0 1 1 1 box 0 0 0 1 1 1;", "part a box 0 0 0 8 8 8 box 0 0 0 8 8 8;",
                "part a box 0 0 0 2 2 2 box 1 1 1 2 2 2;"));
    }

    private void faultOrder() {
        s.holds(4, "FAULTS, the first by its place", () -> {
            faulty(1, "^# part a box 9", "part a box 0 0 0 1 1 ^; part a box 0 0 0 1 1 1;");
            faulty(2, Told.ONE_CELL + "part ^a box 9 0 0 1 1 1;", Told.ONE_CELL + "joint ^b 8", Told.ONE_CELL + "part ^a box 0 0 0 1 1 1; #");
            faulty(3, Told.parts(9) + "^part a box 9 #", Told.TWO_CELLS + Told.joints(8) + "^joint c c 8");
            faulty(4, "part a box ^8 8 8 0 0 0 #", "part a box 0 0 0 ^0 9 9;", "part a box 0 0 0 1 1 ^0 #");
            faulty(5, Told.ONE_CELL + "part b ^box 0 0 0 1 1 1 #", Told.ONE_CELL + "part b ^box 0 0 0 1 1 1; part b");
        });
        s.holds(4, "at one place the least", () -> faulty(3, "part b box 1 0 0 1 1 1; part a" + Told.boxes(23) + "^box 1 0 0 1 1 1;",
                "part a" + Told.boxes(24) + "; part b ^box 0 0 0 1 1 1;"));
    }

    private void fault() {
        s.holds(5, "Of the latest thing()", () -> {
            HandsOrder x = new HandsOrder();
            Told.thing(x, "part a box 8");
            s.row("fault", x::fault, 4, 11);
            Told.thing(x, "part");
            s.row("fault then", x::fault, 1, 4);
            Told.tell(x, Told.ONE_CELL);
            s.row("fault of what is not read so far", x::fault, 1, 4);
            x.thing();
            s.row("fault of what is taken", x::fault, 0, -1);
        });
        s.holds(5, "what 0 the FAULT (0 without one)", () -> {
            s.due("fault 0 of a new object", new HandsOrder().fault(0), 0);
            s.due("fault 0 of a thing", Told.of(Told.TOWER).fault(0), 0);
            HandsOrder x = new HandsOrder();
            String[] texts = {"#", Told.ONE_CELL + "joint a a", Told.parts(9) + "part", "part a box 8", Told.ONE_CELL + "part b box 0 0 0 1 1 1"};
            for (int k = 0; k < texts.length; k++) {
                Told.thing(x, texts[k]);
                s.due("fault 0 of " + texts[k], x.fault(0), k + 1);
            }
        });
        s.holds(5, "1 its place (NONE)", () -> {
            s.due("fault 1 of a new object", new HandsOrder().fault(1), -1);
            HandsOrder x = new HandsOrder();
            Told.thing(x, "#");
            s.due("place 0", x.fault(1), 0);
            Told.thing(x, "");
            s.due("of an empty text", x.fault(1), -1);
            Told.thing(x, Told.TOWER);
            s.due("of a thing", x.fault(1), -1);
        });
        s.holds(5, "NONE for another what.", () -> {
            HandsOrder x = new HandsOrder();
            s.each("fault", new int[] {-1, 2, 3, 32, Integer.MIN_VALUE, Integer.MAX_VALUE}, x::fault, -1);
            Told.thing(x, "part a box 8");
            s.each("fault behind one", new int[] {-1, 2, 3, 32, Integer.MIN_VALUE, Integer.MAX_VALUE}, x::fault, -1);
        });
    }

    private void cell() {
        s.holds(6, "The PART that has a CELL", () -> {
            HandsOrder x = Told.of("part a box 0 0 0 1 8 8; part b box 7 0 0 1 8 8; part c box 1 0 0 6 1 8; part d box 1 7 0 6 1 8;"
                    + " part e box 1 1 0 6 6 1; part f box 1 1 7 6 6 1;");
            s.row("cell .. 3 3", n -> x.cell(n, 3, 3), 0, -1, -1, -1, -1, -1, -1, 1, -1);
            s.row("cell 3 .. 3", n -> x.cell(3, n, 3), 2, -1, -1, -1, -1, -1, -1, 3, -1);
            s.row("cell 3 3 ..", n -> x.cell(3, 3, n), 4, -1, -1, -1, -1, -1, -1, 5, -1);
        });
        s.holds(6, "NONE if none has", () -> {
            HandsOrder x = Told.of("part a box 3 3 3 2 2 2;");
            for (int n = 0; n < 512; n++) {
                int a = n % 8;
                int b = n / 8 % 8;
                int c = n / 64;
                boolean in = Math.min(a, Math.min(b, c)) >= 3 && Math.max(a, Math.max(b, c)) <= 4;
                s.due("cell " + a + " " + b + " " + c, x.cell(a, b, c), in ? 0 : -1);
            }
        });
        s.holds(6, "or there is none such", () -> {
            HandsOrder x = Told.of(WIDEST);
            int[] none = {-1, -8, 8, 9, 16, 64, 256, Integer.MIN_VALUE, Integer.MAX_VALUE};
            s.each("cell in x", none, n -> x.cell(n, 3, 3), -1);
            s.each("cell in y", none, n -> x.cell(3, n, 3), -1);
            s.each("cell in z", none, n -> x.cell(3, 3, n), -1);
            s.each("cell in all", none, n -> x.cell(n, n, n), -1);
        });
    }
}
