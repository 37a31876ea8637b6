/** Promises 28 and 29: a record's text, its faults, and how it is judged. */
final class RecordBoundaries {
    private static final String SIXTEEN = "a up;".repeat(16);

    private final Sentences s;

    RecordBoundaries(Sentences s) {
        this.s = s;
    }

    void test() {
        record();
        faults();
        stays();
        notRight();
        judged();
        noneJudged();
    }

    private void judgedIs(HandsOrder x, String text, int... all) {
        s.due("record " + text, Told.record(x, text), all[0]);
        s.row("judged of " + text, x::judged, all[0], all[1], all[2], all[3]);
    }

    private void record() {
        s.holds(28, "The TAPE, empty then, is a RECORD", () -> {
            HandsOrder x = Told.of(Told.TOWER);
            s.due("record", Told.record(x, "a west;"), 1);
            s.due("end 1", x.end(1), false);
            s.due("a record of nothing", x.record(), 0);
            s.due("a fault", Told.record(x, "a west; #"), -1);
            s.due("end 1 behind a fault", x.end(1), false);
            s.due("feed", x.feed(0, 0, 0, 0, 0), 20);
        });
        s.holds(28, "how many STEPS are right.", () -> {
            judgedIs(Told.of(Told.TOWER), "", 0, 0, 0, -1);
            judgedIs(Told.of(Told.TOWER), " \n", 0, 0, 0, -1);
            judgedIs(new HandsOrder(), "", 0, 0, 0, -1);
            judgedIs(Told.of(Told.DEEP), "e up; d up; c up; a west;", 4, 4, 0, -1);
            judgedIs(Told.of(Told.parts(9)), "a up;b up;c up;d up;e up;f up;g up;h up;", 8, 8, 0, -1);
            judgedIs(Told.of(Told.parts(9)), "a and b and c and d and e and f and g and h up;", 1, 1, 0, -1);
            judgedIs(Told.of(Told.parts(9)), "i\nand h and\ng up;i up;", 2, 2, 0, -1);
            String full = " ".repeat(793) + "a west;";
            judgedIs(Told.of(Told.TOWER), full, 1, 1, 0, -1);
        });
        s.holds(28, "it ends at the first that is not right", () -> {
            judgedIs(Told.of(Told.TOWER), "b up; a west; c west;", 0, 3, 2, 2);
            judgedIs(Told.of(Told.TOWER), "c west; b down; b up;", 1, 3, 2, 0);
            judgedIs(Told.of(Told.TOWER), "a west; b west; a west; c up;", 2, 4, 1, -1);
        });
        s.holds(28, "(what was taken apart ahead does not count, nothing is changed by it)", () -> {
            HandsOrder x = Told.of(Told.JOINED);
            x.apart(4, 4);
            judgedIs(x, "a west;", 0, 1, 3, 0);
            judgedIs(x, "c up; a west;", 2, 2, 0, -1);
            s.row("where", x::where, 3, 3, 4);
            s.due("the next cut", x.apart(1, 1), 3);
            judgedIs(x, "c up; b east;", 2, 2, 0, -1);
            s.due("cuts", x.together(), 2);
        });
    }

    /** The place of the fault is where ^ stands in the text; a part is called and, which no record can tell. */
    private void faulty(int which, String... texts) {
        for (String marked : texts) {
            HandsOrder x = Told.of(Told.TOWER + " part and box 7 7 7 1 1 1; part sixsix box 7 7 5 1 1 1;");
            s.due("record " + marked, Told.record(x, marked.replace("^", "")), -1);
            s.due("fault of " + marked, x.fault(0), which);
            s.due("place in " + marked, x.fault(1), marked.indexOf('^'));
            s.due("nothing is judged", x.judged(0), -1);
        }
    }

    private void faults() {
        s.holds(28, "(KEYWORDS: and, the WAYS)", () -> {
            faulty(1, "^and up;", "a and ^and up;", "^up;", "^east", "a and ^west;", "a and ^north;", "^south;", "^down a;");
            faulty(2, "^part up;", "^box up;", "a and ^joint up;", "^ups;", "^an;", "^ands up;", "a and ^u up;");
            for (String way : Model.WAYS) {
                s.due("way " + way, Told.record(Told.of(Told.TOWER), "a " + way + ";"), way.equals("up") ? 0 : 1);
            }
        });
        s.holds(28, "FAULTS as above: 1", () -> faulty(1, "^;", "^1", "^#", "a^;", "a ^1", "a ^b up;", "a ^part", "a ^upp;", "a and ^;", "a and ^1",
                "a up ^up;", "a up ^and b;",
                "a up^1;", "a up;^;", "a up; ^down;", "^toolong up;", "a and ^toolong", "a up;\n^A", "^" + (char) 0, "a^" + (char) 9 + "up;", "a up;^" + (char) 160,
                "a^", "a ^", "a and^", "a and ^", "a up^", "a up\n ^", "a up; b^", "sixsix^", SIXTEEN + "^;", SIXTEEN + "^up;"));
        s.holds(28, "2 (at the NAME: no PART has it, or it is told twice in a STEP)", () -> {
            faulty(2, "^x up;", "^x", "a and ^x", "a up; ^x up;", "a and b and ^a up;", "a and ^a", "a and b and c and ^c", "^sixsiy", "^aa up;", "^sixsi up;");
            judgedIs(Told.of(Told.TOWER), "a west; a west;", 1, 2, 1, -1);
            judgedIs(Told.of(Told.TOWER), "c and a west; a west;", 2, 2, 0, -1);
        });
        s.holds(28, "3 (at its first NAME) the 17th STEP", () -> {
            judgedIs(Told.of(Told.parts(9)), SIXTEEN, 1, 16, 1, -1);
            faulty(3, SIXTEEN + "^a", SIXTEEN + " ^a up;", SIXTEEN + "\n^a and b up;", SIXTEEN + "^a #");
            faulty(2, SIXTEEN + "^x up;");
        });
    }

    private void stays() {
        s.holds(28, "NONE for a FAULT (fault(); what was JUDGED stays).", () -> {
            HandsOrder x = Told.of(Told.JOINED);
            judgedIs(x, "c up; a east;", 1, 2, 2, 1);
            String[] texts = {"#", "a west; b and b up;", SIXTEEN + "a up;", "c up; a west"};
            int[] which = {1, 2, 3, 1};
            int[] place = {0, 14, 80, 12};
            for (int k = 0; k < texts.length; k++) {
                s.due("record " + texts[k], Told.record(x, texts[k]), -1);
                s.row("fault of " + texts[k], x::fault, which[k], place[k], -1);
                s.row("judged", x::judged, 1, 2, 2, 1);
            }
            s.due("the thing stays", x.net(3), 3);
            Told.thing(x, "part");
            s.row("the fault of a thing behind it", x::fault, 1, 4);
            s.row("judged behind a thing with a fault", x::judged, 1, 2, 2, 1);
        });
    }

    private void notRight() {
        s.holds(29, "1 its HALF is none of one HEAP that there is (all of it, of several)", () -> {
            judgedIs(Told.of(Told.TOWER), "a and b and c up;", 0, 1, 1, -1);
            judgedIs(Told.of(Told.TOWER), "a west; a west;", 1, 2, 1, -1);
            judgedIs(Told.of(Told.TOWER), "a west; b and c west;", 1, 2, 1, -1);
            judgedIs(Told.of(Told.TOWER), "a west; a and b west;", 1, 2, 1, -1);
            judgedIs(Told.of(Told.TOWER), "a west; a and b and c west;", 1, 2, 1, -1);
            judgedIs(Told.of(Told.ONE_CELL), "a up;", 0, 1, 1, -1);
        });
        s.holds(29, "2 it does not LEAVE: the least PART of the rest that BARS one of it", () -> {
            HandsOrder x = Told.of("part a box 0 0 0 1 1 1; part b box 3 0 0 1 1 1; part c box 1 0 0 1 1 1; part d box 2 0 0 1 1 1;");
            judgedIs(x, "a east;", 0, 1, 2, 1);
            judgedIs(x, "a and d east;", 0, 1, 2, 1);
            judgedIs(x, "a and b east;", 0, 1, 2, 2);
            judgedIs(x, "a and b and c east;", 0, 1, 2, 3);
            judgedIs(x, "b west;", 0, 1, 2, 0);
            judgedIs(x, "b east; a east;", 1, 2, 2, 2);
            x.bent(1, true);
            judgedIs(x, "a east;", 0, 1, 2, 2);
            judgedIs(Told.of(Told.parts(9)), "h and i west;", 0, 1, 2, 0);
            judgedIs(Told.of(Told.parts(9)), "a and b and c and d and e and f and g and h north;", 0, 1, 2, 8);
        });
        s.holds(29, "3 a JOINT is not REACHED: the least such one", () -> {
            HandsOrder x = Told.of(Told.TWO_CELLS + "part c box 0 0 3 1 1 1; joint a b 7 7 7 up;" + Told.joints(3));
            judgedIs(x, "a west;", 0, 1, 3, 1);
            judgedIs(x, "c up; a west;", 2, 2, 0, -1);
            judgedIs(x, "a east;", 0, 1, 2, 1);
            HandsOrder last = Told.of(Told.TWO_CELLS + "part c box 0 0 3 1 1 1;" + "joint b a 7 7 7 up;".repeat(7) + "joint b a 0 0 0 up;");
            judgedIs(last, "b east;", 0, 1, 3, 7);
            HandsOrder deep = Told.of(Told.DEEP);
            judgedIs(deep, "a west;", 0, 1, 3, 0);
            judgedIs(deep, "d up;", 0, 1, 3, 3);
            judgedIs(deep, "c and a and b up;", 0, 1, 3, 3);
            judgedIs(deep, "d and b and a up;", 0, 1, 3, 1);
        });
    }

    private void judged() {
        s.holds(29, "what 0 how many STEPS are right, 1 how many it has", () -> {
            HandsOrder x = Told.of(Told.TOWER);
            for (int n = 0; n <= 16; n++) {
                Told.record(x, "a west;".repeat(n));
                s.row(n + " steps", x::judged, Math.min(1, n), n);
            }
        });
        s.holds(29, "2 why the next one is not (0: all are)", () -> {
            HandsOrder x = Told.of(Told.JOINED);
            String[] texts = {"c up; a west;", "c up; c up;", "c up; a east;", "b and c up;"};
            for (int why = 0; why < 4; why++) {
                Told.record(x, texts[why]);
                s.due("why of " + texts[why], x.judged(2), why);
            }
            Told.record(x, "");
            s.due("no step is wrong", x.judged(2), 0);
        });
        s.holds(29, "3 the PART (2) or JOINT (3), NONE else.", () -> {
            HandsOrder x = Told.of(Told.JOINED);
            Told.record(x, "c up; a east;");
            s.due("the part", x.judged(3), 1);
            Told.record(x, "c up; a west;");
            s.due("all are right", x.judged(3), -1);
            Told.record(x, "a west;");
            s.due("the joint", x.judged(3), 0);
            Told.record(x, "a and b and c west;");
            s.due("no half", x.judged(3), -1);
            Told.record(x, "");
            s.due("no step", x.judged(3), -1);
        });
    }

    private void noneJudged() {
        s.holds(29, "NONE for another what, and as long as there was none (and behind each THING that is taken).", () -> {
            HandsOrder x = new HandsOrder();
            s.row("a new object", x::judged, -1, -1, -1, -1, -1);
            Told.thing(x, Told.TOWER);
            s.row("no record so far", x::judged, -1, -1, -1, -1, -1);
            Told.record(x, "a");
            s.row("a fault", x::judged, -1, -1, -1, -1, -1);
            Told.record(x, "a west; b west;");
            s.row("judged", x::judged, 2, 2, 0, -1, -1);
            s.each("judged", new int[] {-1, 4, 5, 32, Integer.MIN_VALUE, Integer.MAX_VALUE}, x::judged, -1);
            Told.thing(x, "part");
            s.row("behind a thing with a fault", x::judged, 2, 2, 0, -1, -1);
            Told.thing(x, Told.TOWER);
            s.row("behind a thing", x::judged, -1, -1, -1, -1, -1);
            Told.record(x, "");
            s.row("behind a record of nothing", x::judged, 0, 0, 0, -1, -1);
            Told.thing(x, "");
            s.row("behind an empty text", x::judged, -1, -1, -1, -1, -1);
        });
        s.holds(29, "Of the RECORD that was JUDGED last", () -> {
            HandsOrder x = Told.of(Told.TOWER);
            Told.record(x, "b up;");
            s.row("the first", x::judged, 0, 1, 2, 2);
            x.bent(2, true);
            s.row("it is not judged again", x::judged, 0, 1, 2, 2);
            Told.record(x, "b up; b up;");
            s.row("the second", x::judged, 1, 2, 1, -1);
            Told.record(x, "");
            s.row("the third", x::judged, 0, 0, 0, -1);
        });
    }
}
