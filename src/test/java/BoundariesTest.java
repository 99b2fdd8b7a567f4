/** Promise by promise, in their order: each sentence that names a boundary or a refusal has a test of its own. */
public final class BoundariesTest {
    private static final int BAD = -1, STATE = -2, FULL = -3, NONE = -4, SPENT = -6;
    private static final int LOW = Integer.MIN_VALUE, HIGH = Integer.MAX_VALUE;
    private static final long BLANKS = 0x2020202020202020L;
    private static final Check CHECK = new Check("BoundariesTest");

    public static void main(String[] args) {
        newObject();
        feed();
        end();
        text();
        fault();
        told();
        rate();
        of();
        parts();
        rest();
        through();
        even();
        worth();
        all();
        flow();
        full();
        both();
        rule();
        shock();
        atOnce();
        round();
        run();
        coupled();
        cells();
        orders();
        ways();
        view();
        seen();
        word();
        sheet();
        lay();
        judge();
        judgeFaults();
        count();
        CHECK.close();
    }

    private static void due(String call, long got, long want) {
        CHECK.due(call, got, want);
    }

    private static void layAll(CrowdedLanes x, int k, int... row) {
        for (int i = 0; i < row.length; i++) {
            due("lay", x.lay(k, i, row[i]), 1);
        }
    }

    // ---- the lane

    private static void newObject() {
        CHECK.says("1: As told at first; SHEETS have nothing");
        CrowdedLanes x = new CrowdedLanes();
        int[] first = {4, 0, 1, 0, 1, 0, 1, 0};
        for (int i = 0; i < first.length; i++) {
            due("told(" + i + ")", x.told(i), first[i]);
        }
        due("the tape is empty", x.count(1), 0);
        due("no fault", x.fault(), 0);
        due("it is a ring", x.rate(8, 1), 1);
        due("its parts", x.parts(0), 5);
        CHECK.fraction("its shares", what -> x.rest(5, what), 1, 6);
        due("it has no words", x.worth(0), STATE);
        for (int k = 0; k < 4; k++) {
            due("sheet " + k, x.lay(k, 0, 0), -11);
        }
        due("sheet 0", x.count(2), NONE);
    }

    private static void feed() {
        CHECK.says("2: Eight bytes come behind THE TAPE, the highest first: how many it has");
        CrowdedLanes x = new CrowdedLanes();
        due("one", x.feed(0x696e203720393b20L), 8); // "in 7 9; "
        due("another one behind it", x.feed(0x6f75742035203b3bL), 16); // "out 5 ;;"
        due("read from its first byte on", x.text(), -24);
        for (long v : new long[] {0, -1, Long.MIN_VALUE, Long.MAX_VALUE, 1, 255}) {
            due("any long", x.feed(v), 8);
            due("back to nothing", x.end(0), 8);
        }
        due("behind a cut", x.feed(BLANKS) + x.end(3) + x.feed(BLANKS), 27);
        CHECK.says("2: FULL: more than 120");
        CrowdedLanes y = new CrowdedLanes();
        for (int i = 1; i <= 15; i++) {
            due("up to 120", y.feed(BLANKS), 8 * i);
        }
        due("behind 120", y.feed(BLANKS), FULL);
        due("and again", y.feed(0), FULL);
        due("it still has 120", y.count(1), 120);
        for (int n = 119; n >= 113; n--) {
            y.end(n);
            due("behind " + n, y.feed(0), FULL);
            due("it still has " + n, y.count(1), n);
        }
        y.end(112);
        due("behind 112", y.feed(BLANKS), 120);
        due("nothing of what was refused is read", y.text(), 0);
        due("behind a text", y.feed(0), 8);
    }

    private static void end() {
        CHECK.says("3: THE TAPE keeps its first n bytes: how many it had");
        CrowdedLanes x = new CrowdedLanes();
        due("none of none", x.end(0), 0);
        Check.write(x, "hop 2 3;hop 4 5;");
        due("all of them", x.end(16), 16);
        due("the first half", x.end(8), 16);
        due("it is taken", x.text(), 1);
        due("by the first bytes", x.told(2) * 10 + x.told(3), 23);
        for (int i = 0; i < 15; i++) {
            x.feed(BLANKS);
        }
        due("all of 120", x.end(120), 120);
        due("none of 120", x.end(0), 120);
        due("none is left", x.end(0), 0);
        CHECK.says("3: BAD");
        CHECK.bounds("n of none", 0, 0, BAD, x::end);
        CrowdedLanes y = new CrowdedLanes();
        for (int length = 8; length <= 120; length += 8) {
            y.feed(BLANKS);
            for (int n : new int[] {-1, LOW, length + 1, HIGH}) {
                due("end(" + n + ") of " + length, y.end(n), BAD);
            }
            due("it still has " + length, y.end(length), length);
        }
        y.end(50);
        due("what is cut off does not come back", y.end(51), BAD);
    }

    private static void text() {
        CHECK.says("4: THE TAPE (empty then) tells THE LANE: how many lines");
        CrowdedLanes x = new CrowdedLanes();
        due("no byte", x.text(), 0);
        due("no line", Check.tell(x, " ".repeat(120)), 0);
        String[] lines = {"open 6;", "hop 9 9;", "in 9 9;", "out 9 9;"};
        String text = "";
        for (int i = 0; i < lines.length; i++) {
            text += lines[i];
            due(text, Check.tell(x, text), i + 1);
            due("the tape is empty then", x.count(1), 0);
        }
        due("four lines as far as the last byte", Check.tell(x, text + " ".repeat(90)), 4);
        due("no line again", x.text(), 0);
        due("it tells all anew", x.told(0), 4);
        CHECK.says("4: -10 less the place of its FAULT: that which was told stays");
        Check.tell(x, text);
        due("the first place", Check.tell(x, "x"), -10);
        due("the last place", Check.tell(x, " ".repeat(119) + "x"), -129);
        due("the end of no more than a name", Check.tell(x, "ring"), -14);
        due("the end of 120 bytes", Check.tell(x, " ".repeat(116) + "ring"), -130);
        due("a fault behind lines that told something", Check.tell(x, "ring 2;hop 0 0;in 0 0;out 0 0;x"), -40);
        int[] told = {6, 1, 9, 9, 9, 9, 9, 9};
        for (int i = 0; i < told.length; i++) {
            due("told(" + i + ")", x.told(i), told[i]);
        }
        due("the tape is empty then", x.count(1), 0);
        due("parts stay", x.parts(2), 64);
    }

    private static void fault() {
        CHECK.says("5: The FAULT of the latest text(); 0");
        CrowdedLanes x = new CrowdedLanes();
        due("no text yet", x.fault(), 0);
        String[] texts = {"#", "ring", "ring 1;", "in 1 1;in"};
        for (int i = 0; i < texts.length; i++) {
            due(texts[i] + " is refused", Check.tell(x, texts[i]) < 0 ? 1 : 0, 1);
            due("fault of " + texts[i], x.fault(), i + 1);
            due("the same again", x.fault(), i + 1);
        }
        x.feed(0);
        x.end(0);
        due("by text() alone", x.fault(), 4);
        due("no byte", x.text(), 0);
        due("a text of no byte has none", x.fault(), 0);
        Check.tell(x, "#");
        Check.tell(x, "ring 2;");
        due("a text that is taken has none", x.fault(), 0);
    }

    private static void told() {
        CHECK.says("6: What holds: 0 .. 7. BAD");
        CrowdedLanes x = Check.lane("open 6;hop 9 8;in 7 5;out 4 3;");
        int[] told = {6, 1, 9, 8, 7, 5, 4, 3};
        for (int i = 0; i < told.length; i++) {
            due("told(" + i + ")", x.told(i), told[i]);
        }
        CHECK.bounds("what", 0, 7, BAD, x::told);
        due("a ring", Check.lane("ring 6;").told(1), 0);
    }

    private static void rate() {
        CHECK.says("7: RATE from a STATE to another one (0: none, or one and the same)");
        CrowdedLanes x = Check.lane("open 2;hop 2 3;in 4 5;out 6 7;");
        int[][] rates = {{0, 4, 5, 0}, {7, 0, 2, 5}, {6, 3, 0, 4}, {0, 6, 7, 0}};
        for (int s = 0; s < 4; s++) {
            for (int t = 0; t < 4; t++) {
                due("rate(" + s + ", " + t + ")", x.rate(s, t), rates[s][t]);
            }
        }
        CHECK.says("7: BAD");
        for (int n = 1; n <= 6; n++) {
            CrowdedLanes lane = Check.lane("open " + n + ";");
            int last = (1 << n) - 1;
            CHECK.bounds("s of " + n, 0, last, BAD, s -> lane.rate(s, 0));
            CHECK.bounds("t of " + n, 0, last, BAD, t -> lane.rate(0, t));
            due("the same, but no state", lane.rate(last + 1, last + 1), BAD);
            due("the same, below", lane.rate(-1, -1), BAD);
        }
    }

    private static void of() {
        CHECK.says("8: Of a STATE: 0 RATES to all others, summed .. 6 GRAINS");
        CrowdedLanes ring = Check.lane("ring 6;hop 9 9;");
        int[][] due = {
            {0, 0, 0, 1, 1, 1, 0, 0}, {63, 0, 0, 1, 1, 1, 63, 6}, {1, 18, 2, 6, 6, 1, 1, 1}, {32, 18, 2, 6, 6, 1, 1, 1},
            {21, 54, 6, 20, 20, 1, 7, 3}, {62, 18, 2, 6, 6, 1, 31, 5},
        };
        for (int[] row : due) {
            for (int what = 0; what < 7; what++) {
                due("of(" + row[0] + ", " + what + ")", ring.of(row[0], what), row[1 + what]);
            }
        }
        CrowdedLanes open = Check.lane("open 6;hop 9 9;in 9 9;out 9 9;");
        due("the most rates", open.of(21, 0), 63);
        due("the most states", open.of(21, 1), 7);
        due("all are reached", open.of(63, 2), 64);
        due("all are of its part", open.of(63, 3), 64);
        due("the least of all", open.of(63, 5), 0);
        CHECK.says("8: BAD");
        CHECK.bounds("s", 0, 63, BAD, s -> ring.of(s, 6));
        CHECK.bounds("what", 0, 6, BAD, what -> ring.of(1, what));
        due("what of the empty state", ring.of(0, 7), BAD);
        CrowdedLanes one = Check.lane("open 1;");
        for (int what = 0; what < 7; what++) {
            int asked = what;
            CHECK.bounds("s of one place", 0, 1, BAD, s -> one.of(s, asked));
        }
    }

    private static void parts() {
        CHECK.says("9: How many PARTS there are (what 0), SHUT ones (1), STATES of the greatest SHUT one (2)");
        for (int n = 1; n <= 6; n++) {
            CrowdedLanes still = Check.lane("open " + n + ";hop 0 0;in 0 0;out 0 0;");
            due("still " + n, still.parts(0), 1 << n);
            due("still, shut " + n, still.parts(1), 1 << n);
            due("still, greatest " + n, still.parts(2), 1);
            CrowdedLanes whole = Check.lane("open " + n + ";");
            due("whole " + n, whole.parts(0), 1);
            due("whole, shut " + n, whole.parts(1), 1);
            due("whole, greatest " + n, whole.parts(2), 1 << n);
            CrowdedLanes drain = Check.lane("open " + n + ";in 0 0;");
            due("drained " + n, drain.parts(0), 1 << n);
            due("drained, shut " + n, drain.parts(1), 1);
            due("drained, greatest " + n, drain.parts(2), 1);
        }
        CrowdedLanes less = Check.lane("open 6;");
        due("64 states are one part", less.parts(0) * 100 + less.parts(2), 164);
        Check.tell(less, "ring 2;");
        due("of 4 states, none of those before", less.parts(0) * 100 + less.parts(1) * 10 + less.parts(2), 332);
        // those of 3 grains are more, but they leak
        CrowdedLanes leak = Check.lane("open 6;hop 1 1;in 0 0;out 0 1;");
        due("the greatest is not shut", leak.parts(2), 1);
        CHECK.says("9: BAD");
        CHECK.bounds("what", 0, 2, BAD, leak::parts);
    }

    private static void rest() {
        CHECK.says("10: 0 the numerator of its SHARE, 1 the denominator");
        CrowdedLanes x = Check.lane("open 1;in 9 0;out 1 0;");
        CHECK.fraction("free", what -> x.rest(0, what), 1, 10);
        CHECK.fraction("full", what -> x.rest(1, what), 9, 10);
        CrowdedLanes ring = Check.lane("ring 2;hop 0 1;");
        CHECK.fraction("of two", what -> ring.rest(2, what), 1, 2);
        CHECK.fraction("of one, empty", what -> ring.rest(0, what), 1, 1);
        CHECK.fraction("of one, full", what -> ring.rest(3, what), 1, 1);
        CHECK.says("10: BAD");
        CHECK.bounds("s", 0, 3, BAD, s -> ring.rest(s, 0));
        CHECK.bounds("what", 0, 1, BAD, what -> ring.rest(1, what));
        CHECK.says("10: NONE: its PART is not SHUT");
        CrowdedLanes drain = Check.lane("open 3;in 0 0;");
        for (int s = 1; s < 8; s++) {
            due("of " + s, drain.rest(s, 0), NONE);
            due("under " + s, drain.rest(s, 1), NONE);
        }
        due("the one that is shut", drain.rest(0, 1), 1);
        CHECK.says("10: SPENT: more than 8 STATES");
        due("8", Check.lane("open 3;").rest(7, 1), 14);
        CrowdedLanes five = Check.lane("ring 5;");
        due("5", five.rest(1, 1), 5);
        due("10", five.rest(3, 1), SPENT);
        due("5 again behind it", five.rest(15, 1), 5);
        due("16", Check.lane("open 4;").rest(0, 0), SPENT);
        due("64", Check.lane("open 6;").rest(63, 0), SPENT);
    }

    private static void through() {
        CHECK.says("11: GRAINS that hop by R from PLACE 0 to 1, less those by L from 1 to 0 (n 2 or more)");
        CrowdedLanes two = Check.lane("ring 2;hop 9 0;");
        CHECK.fraction("a ring of 2, over one of its two ways", what -> two.through(2, what), 9, 2);
        CrowdedLanes back = Check.lane("ring 2;hop 0 9;");
        CHECK.fraction("a ring of 2, back", what -> back.through(2, what), -9, 2);
        CrowdedLanes open = Check.lane("open 2;hop 3 3;in 1 1;out 1 1;");
        CHECK.fraction("as many back", what -> open.through(0, what), 0, 1);
        CrowdedLanes still = Check.lane("open 6;hop 0 0;in 0 0;out 0 0;");
        CHECK.fraction("still", what -> still.through(1, what), 0, 1);
        CHECK.says("11: with n 1: IN less BACK OUT of OPEN");
        CrowdedLanes in = Check.lane("open 1;hop 9 9;in 1 0;out 1 0;");
        CHECK.fraction("only in", what -> in.through(0, what), 1, 2);
        CrowdedLanes out = Check.lane("open 1;in 0 1;out 0 1;");
        CHECK.fraction("only back out", what -> out.through(1, what), -1, 2);
        CrowdedLanes far = Check.lane("open 1;in 0 1;out 1 0;");
        CHECK.fraction("only by the other end", what -> far.through(1, what), 0, 1);
        CrowdedLanes full = Check.lane("open 1;in 9 9;out 0 0;");
        CHECK.fraction("full for ever", what -> full.through(1, what), 0, 1);
        CHECK.says("11: BAD -100");
        CHECK.bounds("s", 0, 3, -100, s -> two.through(s, 0));
        CHECK.bounds("what", 0, 1, -100, what -> two.through(1, what));
        CHECK.says("11: NONE -104, SPENT -106 as told");
        due("not shut", full.through(0, 0), -104);
        due("not shut, denominator", full.through(0, 1), -104);
        due("16 states", Check.lane("open 4;").through(0, 0), -106);
        due("16 states, denominator", Check.lane("open 4;").through(0, 1), -106);
        due("8 states", Check.lane("open 3;").through(0, 1), 14);
    }

    private static void even() {
        CHECK.says("12: Whether each HOP of the PART of a STATE and its back agree AT REST (1, 0)");
        CrowdedLanes ring = Check.lane("ring 3;hop 1 1;");
        due("one state: there is no hop", ring.even(0) + ring.even(7), 2);
        due("alike", ring.even(1), 1);
        due("a little more to the right", Check.lane("ring 3;hop 9 8;").even(1), 0);
        due("no way back", Check.lane("ring 3;hop 1 0;").even(1), 0);
        due("no way back in a part of 8", Check.lane("open 3;").even(0), 0);
        due("two states always agree", Check.lane("ring 2;hop 9 0;").even(1), 1);
        due("still", Check.lane("open 6;hop 0 0;in 0 0;out 0 0;").even(63), 1);
        CHECK.says("12: BAD");
        CHECK.bounds("s", 0, 7, BAD, ring::even);
        CHECK.says("12: NONE, SPENT as told");
        due("not shut", Check.lane("open 1;in 0 0;").even(1), NONE);
        due("shut", Check.lane("open 1;in 0 0;").even(0), 1);
        due("16 states", Check.lane("open 4;").even(0), SPENT);
        due("10 states", Check.lane("ring 5;hop 1 1;").even(3), SPENT);
    }

    // ---- words

    private static void worth() {
        CHECK.says("13: WORTH of a STATE. BAD");
        for (int n = 1; n <= 6; n++) {
            CrowdedLanes x = Check.lane("open " + n + ";in 2 0;out 3 0;");
            int last = (1 << n) - 1;
            CHECK.bounds("s of " + n, 0, last, BAD, x::worth);
            due("free " + n, x.worth(0), Math.round(Math.pow(3, n)));
            due("full " + n, x.worth(last), Math.round(Math.pow(2, n)));
        }
        due("the greatest", Check.lane("open 6;in 9 0;out 9 0;").worth(21), 147994626798L);
        CHECK.says("13: STATE: not as told for WORDS");
        due("a ring", new CrowdedLanes().worth(0), STATE);
        due("the last state", new CrowdedLanes().worth(15), STATE);
        due("BAD first", new CrowdedLanes().worth(16), BAD);
    }

    private static void all() {
        CHECK.says("14: ALL of m (0 to n) PLACES. BAD");
        long[] catalan = {1, 2, 5, 14, 42, 132, 429};
        for (int n = 1; n <= 6; n++) {
            CrowdedLanes x = Check.lane("open " + n + ";");
            CHECK.bounds("m of " + n, 0, n, BAD, x::all);
            due("none of " + n, x.all(0), 1);
            due("all of " + n, x.all(n), catalan[n]);
        }
        due("the greatest", Check.lane("open 6;in 9 0;out 9 0;").all(6), 3121895416077L);
        CHECK.says("14: STATE");
        CrowdedLanes ring = Check.lane("ring 4;");
        due("m 0", ring.all(0), STATE);
        due("m n", ring.all(4), STATE);
        due("BAD first", ring.all(5), BAD);
    }

    private static void flow() {
        CHECK.says("15: FLOW: 0 the numerator, 1 the denominator. BAD");
        CrowdedLanes one = Check.lane("open 1;in 1 0;out 1 0;");
        CHECK.fraction("one place", one::flow, 1, 2);
        CHECK.bounds("what", 0, 1, BAD, one::flow);
        CHECK.fraction("six places", Check.lane("open 6;")::flow, 4, 13);
        CHECK.says("15: STATE");
        due("a ring", new CrowdedLanes().flow(0), STATE);
        due("a ring, denominator", new CrowdedLanes().flow(1), STATE);
        due("BAD first", new CrowdedLanes().flow(2), BAD);
    }

    private static void full() {
        CHECK.says("16: How full PLACE i is by WORDS likewise. BAD");
        CrowdedLanes one = Check.lane("open 1;in 1 0;out 9 0;");
        CHECK.fraction("one place", what -> one.full(0, what), 1, 10);
        CHECK.bounds("i of one place", 0, 0, BAD, i -> one.full(i, 0));
        CrowdedLanes six = Check.lane("open 6;");
        CHECK.fraction("the first one", what -> six.full(0, what), 9, 13);
        CHECK.fraction("the last one", what -> six.full(5, what), 4, 13);
        CHECK.bounds("i", 0, 5, BAD, i -> six.full(i, 0));
        CHECK.bounds("what", 0, 1, BAD, what -> six.full(0, what));
        due("32 is not place 0", six.full(32, 0), BAD);
        CHECK.says("16: STATE");
        due("a ring", new CrowdedLanes().full(0, 0), STATE);
        due("BAD first: i", new CrowdedLanes().full(4, 0), BAD);
        due("BAD first: what", new CrowdedLanes().full(0, 2), BAD);
    }

    private static void both() {
        CHECK.says("17: That PLACES i and j (unlike) both are full, likewise. BAD");
        CrowdedLanes two = Check.lane("open 2;");
        CHECK.fraction("two places", what -> two.both(0, 1, what), 1, 5);
        CHECK.fraction("the other way round", what -> two.both(1, 0, what), 1, 5);
        CrowdedLanes six = Check.lane("open 6;");
        CHECK.fraction("first and last", what -> six.both(0, 5, what), 30, 143);
        CHECK.bounds("i", 0, 5, BAD, i -> six.both(i, 3, 0));
        CHECK.bounds("j", 0, 5, BAD, j -> six.both(3, j, 0));
        CHECK.bounds("what", 0, 1, BAD, what -> six.both(0, 1, what));
        for (int i = 0; i < 6; i++) {
            due("alike " + i, six.both(i, i, 0), BAD);
        }
        due("32 and 0", six.both(32, 0, 0), BAD);
        due("one place has no two", Check.lane("open 1;").both(0, 0, 1), BAD);
        due("one place has no other", Check.lane("open 1;").both(0, 1, 1), BAD);
        CHECK.says("17: STATE");
        due("a ring", new CrowdedLanes().both(0, 3, 0), STATE);
        due("BAD first: alike", new CrowdedLanes().both(3, 3, 0), BAD);
        due("BAD first: what", new CrowdedLanes().both(0, 3, 2), BAD);
    }

    private static void rule() {
        CHECK.says("18: RULE of the ends by tenths a, b (1 to 10). BAD");
        CrowdedLanes x = new CrowdedLanes();
        CHECK.bounds("a", 1, 10, BAD, a -> x.rule(a, 5));
        CHECK.bounds("b", 1, 10, BAD, b -> x.rule(5, b));
        due("least", x.rule(1, 1), 3);
        due("most", x.rule(10, 10), 2);
        due("least and most", x.rule(1, 10) * 10 + x.rule(10, 1), 1);
        due("told by here alone", Check.lane("open 2;in 0 0;").rule(4, 5), 0);
    }

    private static void shock() {
        CHECK.says("19: 0 the numerator, 1 the denominator, 2 whether it stands (1, 0)");
        CrowdedLanes x = new CrowdedLanes();
        int[][] due = {{0, 10, 0, 1, 1}, {10, 0, 0, 1, 1}, {0, 1, 9, 10, 0}, {10, 9, -9, 10, 0}, {4, 6, 0, 1, 1}};
        for (int[] row : due) {
            for (int what = 0; what < 3; what++) {
                due("shock " + row[0] + " " + row[1], x.shock(row[0], row[1], what), row[2 + what]);
            }
        }
        CHECK.says("19: BAD -100");
        CHECK.bounds("l", 0, 10, -100, l -> x.shock(l, 3, 2));
        CHECK.bounds("r", 0, 10, -100, r -> x.shock(3, r, 2));
        CHECK.bounds("what", 0, 2, -100, what -> x.shock(1, 2, what));
        due("alike, but beyond", x.shock(11, 11, 0), -100);
        due("alike, but below", x.shock(-1, -1, 0), -100);
        CHECK.says("19: NONE -104: l is r");
        due("both 0", x.shock(0, 0, 0), -104);
        due("both 10", x.shock(10, 10, 1), -104);
        due("both 5, though 10 together", x.shock(5, 5, 2), -104);
    }

    // ---- all at once, draws

    private static void atOnce() {
        CHECK.says("20: ALL AT ONCE m times (0 to 1000): the STATE");
        CrowdedLanes x = Check.lane("ring 6;");
        due("no step", x.atOnce(7, 0), 7);
        due("one", x.atOnce(7, 1), 11);
        due("1000", x.atOnce(7, 1000), 21);
        due("999", x.atOnce(7, 999), 42);
        due("1000 of one grain: 4 behind whole rounds", x.atOnce(1, 1000), 16);
        CHECK.says("20: BAD");
        CHECK.bounds("s", 0, 63, BAD, s -> x.atOnce(s, 1));
        CHECK.bounds("m", 0, 1000, BAD, m -> x.atOnce(1, m));
        CHECK.says("20: STATE: THE LANE is OPEN");
        CrowdedLanes open = Check.lane("open 6;");
        due("open", open.atOnce(7, 1), STATE);
        due("open, no step", open.atOnce(0, 0), STATE);
        due("BAD first: s", open.atOnce(64, 0), BAD);
        due("BAD first: m", open.atOnce(0, 1001), BAD);
        due("open of one place", Check.lane("open 1;").atOnce(1, 1), STATE);
    }

    private static void round() {
        CHECK.says("21: Of a STATE: 0 ROUND, 1 TAIL, 2 HOPS of the ROUND");
        CrowdedLanes two = Check.lane("ring 2;");
        int[][] due = {{0, 1, 0, 0}, {1, 2, 0, 2}, {2, 2, 0, 2}, {3, 1, 0, 0}};
        for (int[] row : due) {
            for (int what = 0; what < 3; what++) {
                due("round(" + row[0] + ", " + what + ")", two.round(row[0], what), row[1 + what]);
            }
        }
        CrowdedLanes six = Check.lane("ring 6;");
        due("the longest tail", six.round(7, 1), 2);
        due("most hops", six.round(3, 2), 12);
        CHECK.says("21: BAD");
        CHECK.bounds("s", 0, 63, BAD, s -> six.round(s, 1));
        CHECK.bounds("what", 0, 2, BAD, what -> six.round(1, what));
        CHECK.says("21: STATE: OPEN");
        CrowdedLanes open = Check.lane("open 6;");
        for (int what = 0; what < 3; what++) {
            due("open", open.round(1, what), STATE);
        }
        due("BAD first: s", open.round(64, 0), BAD);
        due("BAD first: what", open.round(1, 3), BAD);
    }

    private static void run() {
        CHECK.says("22: A RUN of m TICKS by a seed: the STATE behind it (what 0), HOPS (1)");
        CrowdedLanes x = Check.lane("ring 6;");
        for (int seed : new int[] {LOW, -1, 0, 1, HIGH}) {
            due("no tick", x.run(63, seed, 0, 0), 63);
            due("no hop", x.run(21, seed, 0, 1), 0);
            due("empty", x.run(0, seed, 200, 0), 0);
            due("full", x.run(63, seed, 200, 0), 63);
            due("full, hops", x.run(63, seed, 200, 1), 0);
            due("grains stay as many", Integer.bitCount(x.run(21, seed, 200, 0)), 3);
        }
        due("200 ticks by -5", x.run(11, -5, 200, 0), 21);
        due("hops of 200 ticks by -5", x.run(11, -5, 200, 1), 62);
        CHECK.says("22: BAD");
        CHECK.bounds("s", 0, 63, BAD, s -> x.run(s, 1, 1, 0));
        CHECK.bounds("m", 0, 200, BAD, m -> x.run(1, 1, m, 1));
        CHECK.bounds("what", 0, 1, BAD, what -> x.run(1, 1, 1, what));
        CHECK.says("22: STATE: OPEN");
        CrowdedLanes open = Check.lane("open 6;");
        due("open", open.run(1, 1, 1, 0), STATE);
        due("open, no tick", open.run(1, 1, 0, 1), STATE);
        due("BAD first: s", open.run(64, 1, 1, 0), BAD);
        due("BAD first: m", open.run(1, 1, 201, 0), BAD);
        due("BAD first: what", open.run(1, 1, 1, 2), BAD);
    }

    private static void coupled() {
        CHECK.says("23: UNLIKE behind m TICKS (what 0)");
        CrowdedLanes x = Check.lane("ring 6;");
        due("no tick", x.coupled(11, 13, 7, 0, 0), 2);
        due("before they are alike", x.coupled(11, 13, 7, 20, 0), 2);
        due("when they are alike", x.coupled(11, 13, 7, 21, 0), 0);
        due("200 ticks", x.coupled(11, 13, 7, 200, 0), 0);
        CHECK.says("23: the TICK from which on both are alike (1; NONE: they are not at the end)");
        due("alike at first, no tick", x.coupled(5, 5, 7, 0, 1), 0);
        due("alike at first", x.coupled(5, 5, 7, 200, 1), 0);
        due("not at the end, no tick", x.coupled(11, 13, 7, 0, 1), NONE);
        due("not at the end yet", x.coupled(11, 13, 7, 20, 1), NONE);
        due("just at the end", x.coupled(11, 13, 7, 21, 1), 21);
        due("long before the end", x.coupled(11, 13, 7, 200, 1), 21);
        due("the other way round", x.coupled(13, 11, 7, 200, 1), 21);
        due("never, not as many", x.coupled(0, 1, 7, 200, 1), NONE);
        CHECK.says("23: the most UNLIKE (2)");
        due("at first", x.coupled(11, 13, 7, 200, 2), 2);
        due("all of them", x.coupled(0, 63, 7, 0, 2), 6);
        due("none", x.coupled(63, 63, 7, 200, 2), 0);
        CHECK.says("23: BAD");
        CHECK.bounds("s", 0, 63, BAD, s -> x.coupled(s, 1, 1, 1, 0));
        CHECK.bounds("t", 0, 63, BAD, t -> x.coupled(1, t, 1, 1, 0));
        CHECK.bounds("m", 0, 200, BAD, m -> x.coupled(1, 1, 1, m, 0));
        CHECK.bounds("what", 0, 2, BAD, what -> x.coupled(1, 1, 1, 1, what));
        due("alike, but no state", x.coupled(64, 64, 1, 1, 1), BAD);
        CHECK.says("23: STATE: OPEN");
        CrowdedLanes open = Check.lane("open 6;");
        for (int what = 0; what < 3; what++) {
            due("open", open.coupled(1, 1, 1, 0, what), STATE);
        }
        due("BAD first: s", open.coupled(64, 1, 1, 1, 0), BAD);
        due("BAD first: t", open.coupled(1, 64, 1, 1, 0), BAD);
        due("BAD first: m", open.coupled(1, 1, 1, 201, 0), BAD);
        due("BAD first: what", open.coupled(1, 1, 1, 1, 3), BAD);
    }

    // ---- rims, walkers

    private static void cells() {
        CHECK.says("24: CELLS from a STATE of 8 PLACES to another one. BAD");
        CrowdedLanes x = Check.lane("open 1;");
        CHECK.bounds("s", 0, 255, BAD, s -> x.cells(s, 1));
        CHECK.bounds("t", 0, 255, BAD, t -> x.cells(1, t));
        due("both of them no state", x.cells(256, 256), BAD);
        due("one and the same", x.cells(165, 165), 0);
        due("of 8 places, whatever n is", x.cells(64, 128), 1);
        CHECK.says("24: NONE: it does not lead there");
        due("to the left", x.cells(2, 1), NONE);
        due("round", x.cells(128, 1), NONE);
        due("one grain more", x.cells(1, 3), NONE);
        due("one grain less", x.cells(3, 2), NONE);
        due("one of two to the left", x.cells(5, 3), NONE);
        due("the lowest to the left, the other far to the right", x.cells(6, 129), NONE);
        due("full to one less", x.cells(255, 254), NONE);
    }

    private static void orders() {
        CHECK.says("25: ORDERS. BAD");
        CrowdedLanes x = Check.lane("open 1;");
        CHECK.bounds("s", 0, 255, BAD, s -> x.orders(s, 1));
        CHECK.bounds("t", 0, 255, BAD, t -> x.orders(1, t));
        due("one and the same", x.orders(165, 165), 1);
        due("one hop", x.orders(64, 128), 1);
        due("two that do not matter to one another", x.orders(17, 34), 2);
        due("two in a row: one must go first", x.orders(3, 6), 1);
        CHECK.says("25: 0: it does not lead there");
        due("to the left", x.orders(2, 1), 0);
        due("round", x.orders(128, 1), 0);
        due("one grain more", x.orders(1, 3), 0);
        due("one grain less", x.orders(3, 4), 0);
        due("one of two to the left", x.orders(6, 129), 0);
        due("empty to full", x.orders(0, 255), 0);
    }

    private static void ways() {
        CHECK.says("26: WAYS of WALKERS from some PLACES to others in m steps");
        CrowdedLanes x = new CrowdedLanes();
        due("no step", x.ways(2049, 2049, 0), 1);
        due("no step to another place", x.ways(2049, 2050, 0), 0);
        due("both ends inwards", x.ways(2049, 1026, 1), 1);
        due("four, 8 steps", x.ways(0b1001001001, 0b1001001001, 8) > 0 ? 1 : 0, 1);
        due("too far", x.ways(1, 2048, 8), 0);
        CHECK.says("26: BAD: also not 1 to 4, not as many");
        due("none at all", x.ways(0, 0, 1), BAD);
        due("none to one", x.ways(0, 1, 1), BAD);
        due("one to none", x.ways(1, 0, 1), BAD);
        due("five", x.ways(31, 31, 1), BAD);
        due("five to four", x.ways(31, 15, 1), BAD);
        due("four to five", x.ways(15, 31, 1), BAD);
        due("four", x.ways(15, 15, 0), 1);
        due("two to one", x.ways(3, 1, 1), BAD);
        due("three to four", x.ways(7, 15, 1), BAD);
        CHECK.bounds("from, one walker", 1, 2048, BAD, from -> x.ways(from, 1, 1));
        CHECK.bounds("to, one walker", 1, 2048, BAD, to -> x.ways(1, to, 1));
        due("a place 12", x.ways(4096, 1, 1), BAD);
        due("to a place 12", x.ways(1, 4096, 1), BAD);
        due("a place 12 beside another one", x.ways(4097, 3, 1), BAD);
        CHECK.bounds("m", 0, 8, BAD, m -> x.ways(3, 3, m));
    }

    // ---- two kinds

    private static void view() {
        CHECK.says("27: VIEW of two rows for n PLACES: the WORD. BAD: also A has more");
        for (int n = 1; n <= 6; n++) {
            CrowdedLanes x = Check.lane("open " + n + ";");
            int full = (1 << n) - 1;
            int words = (int) Math.round(Math.pow(3, n));
            CHECK.bounds("a of " + n, 0, full, BAD, a -> x.view(a, full));
            CHECK.bounds("b of " + n, 0, full, BAD, b -> x.view(0, b));
            due("none and none of " + n, x.view(0, 0), 0);
            due("none and all of " + n, x.view(0, full), words - 1);
            due("all and all of " + n, x.view(full, full), (words - 1) / 2);
            due("one and none of " + n, x.view(1, 0), BAD);
            due("all and one less of " + n, x.view(full, full >> 1), BAD);
            due("the last place and the first of " + n, x.view(1 << n - 1, 1), 1);
            due("the first place and the last, round, of " + n, x.view(1, 1 << n - 1), words / 3);
        }
        due("as many elsewhere", Check.lane("ring 4;").view(3, 12), 9 + 27);
    }

    private static void seen() {
        CHECK.says("28: SEEN of a WORD. BAD");
        for (int n = 1; n <= 6; n++) {
            CrowdedLanes x = Check.lane("open " + n + ";");
            int words = (int) Math.round(Math.pow(3, n));
            CHECK.bounds("word of " + n, 0, words - 1, BAD, x::seen);
            due("all free of " + n, x.seen(0), 1);
            due("all second of " + n, x.seen(words - 1), 1);
            due("all first of " + n, x.seen((words - 1) / 2), 1);
            due("one first of " + n, x.seen(words / 3), n);
        }
    }

    private static void word() {
        CHECK.says("29: 0 how many HOPS lead out of it");
        CrowdedLanes x = Check.lane("ring 3;");
        due("none: all free", x.word(0, 0), 0);
        due("round", x.word(9, 0), 1);
        due("two", x.word(7, 0), 2);
        CHECK.says("29: 1 SEEN of all WORDS from which a HOP leads to it, summed (by each HOP)");
        due("none: all free", x.word(0, 1), 0);
        due("none: all second", x.word(26, 1), 0);
        due("round: from a grain at the last place", x.word(1, 1), x.seen(9));
        due("second and first do not change", x.word(7, 1), x.seen(15));
        CrowdedLanes four = Check.lane("ring 4;");
        due("by two hops, one of them round", four.word(10, 1), four.seen(36) + four.seen(4));
        due("as many pairs of rows", four.word(10, 1), 12);
        CHECK.says("29: 2 first kind, 3 second kind; 10 and i: what PLACE i has");
        for (int n = 1; n <= 6; n++) {
            CrowdedLanes lane = Check.lane("open " + n + ";");
            int words = (int) Math.round(Math.pow(3, n));
            due("first of all first", lane.word((words - 1) / 2, 2), n);
            due("second of all first", lane.word((words - 1) / 2, 3), 0);
            due("first of all second", lane.word(words - 1, 2), 0);
            due("second of all second", lane.word(words - 1, 3), n);
            due("the first place", lane.word(1, 10), 1);
            due("the last place", lane.word(2 * (words / 3), 9 + n), 2);
            due("behind the last place", lane.word(1, 10 + n), BAD);
            CHECK.bounds("place of " + n, 10, 9 + n, BAD, what -> lane.word(0, what));
        }
        CHECK.says("29: BAD");
        CHECK.bounds("word", 0, 26, BAD, word -> x.word(word, 0));
        CHECK.bounds("what", 0, 3, BAD, what -> x.word(1, what));
        for (int what = 4; what <= 9; what++) {
            due("what " + what, x.word(1, what), BAD);
        }
    }

    // ---- sheets

    private static void sheet() {
        CHECK.says("30: A SHEET is a new row of CELLS 0: 1");
        CrowdedLanes x = Check.lane("ring 2;hop 0 0;");
        for (int lane = 0; lane < 3; lane++) {
            for (int n : new int[] {0, 1, 63, 64}) {
                due("made", x.sheet(0, lane, n), 1);
                due("its cells", x.count(2), n);
            }
            due("the last cell is 0", x.judge(0, 0, lane, 63), 0);
            x.lay(0, 63, 1);
            due("and then 1", x.judge(0, 0, lane, 63), 1);
            x.sheet(0, lane, 1);
            due("there is no such cell any more", x.judge(0, 0, lane, 63), -12);
            x.sheet(0, lane, 64);
            due("a new one is 0 again", x.judge(0, 0, lane, 63), 0);
        }
        x.sheet(1, 0, 1);
        x.lay(1, 0, 1);
        x.sheet(2, 0, 1);
        due("another sheet stays", x.judge(0, 1, 0, 0), 1);
        CHECK.says("30: BAD: also n above 64; -10 - 4");
        CHECK.bounds("k", 0, 3, BAD, k -> x.sheet(k, 0, 5));
        CHECK.bounds("lane", 0, 2, BAD, lane -> x.sheet(0, lane, 5));
        due("65", x.sheet(0, 0, 65), BAD);
        due("HIGH", x.sheet(0, 0, HIGH), BAD);
        due("-1", x.sheet(0, 0, -1), -14);
        due("LOW", x.sheet(0, 0, LOW), -14);
        due("BAD first: k", x.sheet(4, 0, -1), BAD);
        due("BAD first: lane", x.sheet(0, 3, LOW), BAD);
        due("it stays", x.count(2), 5);
    }

    /** Two states that come and go alike: what is judged 1 are two like cells, not 0. */
    private static void laidAs(int lane, int v, int cell) {
        CrowdedLanes x = Check.lane("ring 2;");
        x.sheet(3, lane, 2);
        due("lay " + v, x.lay(3, 0, v), 1);
        x.lay(3, 1, cell);
        due("cell of lane " + lane + " from " + v, x.judge(1, 3, lane, 0), cell < 0 ? -20 : cell > 0 ? 1 : 0);
        if (cell > 0) {
            x.lay(3, 1, cell - 1);
            due("not one less", x.judge(1, 3, lane, 0), 0);
        }
    }

    private static void lay() {
        CHECK.says("31: CELL i of a SHEET becomes v (its lowest bits): 1");
        int[] values = {
            0, 1, 126, 127, 128, 129, 255, 256, 257, 383, 384, 32766, 32767, 32768, 65535, 65536, 65537, HIGH - 1, HIGH,
            LOW, LOW + 1, -1, -128, -129, -255, -256, -32768, -32769, -65535, -65536,
        };
        for (int v : values) {
            laidAs(0, v, (byte) v);
            laidAs(1, v, (short) v);
            laidAs(2, v, v);
        }
        CHECK.says("31: BAD: k");
        CrowdedLanes x = Check.lane("ring 2;");
        for (int k = 0; k < 4; k++) {
            x.sheet(k, 1, 3);
        }
        CHECK.bounds("k", 0, 3, BAD, k -> x.lay(k, 0, 0));
        due("BAD before INDEX", x.lay(4, 3, 0), BAD);
        CHECK.says("31: -10 less the FAULT: NULL, INDEX");
        CHECK.bounds("i", 0, 2, -12, i -> x.lay(1, i, 0));
        due("NULL", new CrowdedLanes().lay(0, 0, 0), -11);
        due("NULL before INDEX", new CrowdedLanes().lay(3, -1, 0), -11);
        x.sheet(2, 2, 0);
        due("no cell", x.lay(2, 0, 0), -12);
        due("BAD before NULL", new CrowdedLanes().lay(-1, 0, 0), BAD);
    }

    private static void judge() {
        CHECK.says("32: for each STATE of the PART of a STATE, from the least on, a CELL, f and on");
        CrowdedLanes open = Check.lane("open 2;hop 2 0;in 3 0;out 4 0;");
        open.sheet(0, 0, 6);
        layAll(open, 0, 1, 16, 42, 12, 9, 1);
        due("from cell 1 on", open.judge(3, 0, 0, 1), 1);
        due("from cell 0 on", open.judge(3, 0, 0, 0), 0);
        due("from cell 2 on, the last one that fits", open.judge(3, 0, 0, 2), 0);
        due("one too far", open.judge(3, 0, 0, 3), -12);
        CrowdedLanes ring = Check.lane("ring 6;");
        ring.sheet(1, 2, 64);
        for (int i = 0; i < 64; i++) {
            ring.lay(1, i, HIGH);
        }
        due("20 states, the greatest shares", ring.judge(21, 1, 2, 44), 1);
        due("20 states, one too far", ring.judge(21, 1, 2, 45), -12);
        due("one state, the last cell", ring.judge(63, 1, 2, 63), 1);
        CrowdedLanes all = Check.lane("open 6;");
        all.sheet(2, 1, 64);
        for (int s = 0; s < 64; s++) {
            all.lay(2, s, (int) all.worth(s));
        }
        due("64 states", all.judge(0, 2, 1, 0), 1);
        due("64 states, one too far", all.judge(0, 2, 1, 1), -12);
        all.lay(2, 63, -1);
        due("64 states, the last below 0", all.judge(0, 2, 1, 0), -83);
        CHECK.says("32: 1 it is AT REST (what comes by HOPS within the PART and what goes are alike for each, not all 0), 0 not");
        CrowdedLanes still = Check.lane("ring 2;hop 0 0;");
        still.sheet(0, 0, 2);
        due("one state, 0", still.judge(1, 0, 0, 0), 0);
        still.lay(0, 0, 1);
        due("one state, 1", still.judge(1, 0, 0, 0), 1);
        CrowdedLanes two = Check.lane("ring 2;");
        two.sheet(0, 0, 3);
        due("two states, all 0", two.judge(1, 0, 0, 0), 0);
        two.lay(0, 0, 1);
        due("two states, one of them 0", two.judge(1, 0, 0, 0), 0);
        two.lay(0, 1, 1);
        due("two states alike", two.judge(1, 0, 0, 0), 1);
        due("the last one 0", two.judge(1, 0, 0, 1), 0);
        // some states of a part may have share 0, but then what comes to them is not alike
        CrowdedLanes one = Check.lane("open 1;in 2 0;out 4 0;");
        one.sheet(0, 2, 2);
        layAll(one, 0, HIGH - 1, HIGH / 2);
        due("half as much goes twice as fast", one.judge(0, 0, 2, 0), 1);
        layAll(one, 0, HIGH, HIGH / 2);
        due("one more", one.judge(0, 0, 2, 0), 0);
    }

    private static void judgeFaults() {
        CHECK.says("32: BAD: s, k, lane");
        CrowdedLanes x = Check.lane("open 2;hop 1 1;in 0 0;out 0 0;");
        for (int k = 0; k < 4; k++) {
            x.sheet(k, 0, 4);
        }
        CHECK.bounds("s", 0, 3, BAD, s -> x.judge(s, 0, 0, 0));
        CHECK.bounds("k", 0, 3, BAD, k -> x.judge(0, k, 0, 0));
        CHECK.bounds("lane", 0, 2, BAD, lane -> x.judge(0, 0, lane, 0));
        CrowdedLanes drain = Check.lane("open 2;in 0 0;");
        due("BAD before NONE: k", drain.judge(1, 4, 0, 0), BAD);
        due("BAD before NONE: lane", drain.judge(1, 0, 3, 0), BAD);
        due("BAD before NULL", drain.judge(0, 0, 3, 0), BAD);
        due("BAD before INDEX", x.judge(4, 0, 0, 99), BAD);
        CHECK.says("32: NONE: the PART is not SHUT");
        due("NONE before NULL", drain.judge(1, 0, 0, 0), NONE);
        drain.sheet(0, 0, 1);
        due("NONE before CAST", drain.judge(1, 0, 1, 0), NONE);
        due("NONE before INDEX", drain.judge(1, 0, 0, 9), NONE);
        drain.lay(0, 0, -1);
        due("NONE before a cell below 0", drain.judge(1, 0, 0, 0), NONE);
        due("the one that is shut", drain.judge(0, 0, 0, 0), -20);
        CHECK.says("32: -10 less the FAULT: NULL, CAST, then CELL by CELL INDEX");
        due("NULL, whatever the lane and f", drain.judge(0, 3, 2, LOW), -11);
        due("CAST before INDEX", x.judge(1, 0, 2, HIGH), -13);
        x.lay(0, 0, -1);
        due("CAST before a cell below 0", x.judge(1, 0, 2, 0), -13);
        CHECK.bounds("f of a part of two", 0, 2, -12, f -> x.judge(1, 0, 0, f));
        CHECK.bounds("f of a part of one", 0, 3, -12, f -> x.judge(3, 0, 0, f));
        x.sheet(1, 1, 0);
        due("no cell", x.judge(1, 1, 1, 0), -12);
        for (int kind = 0; kind < 3; kind++) {
            x.sheet(2, kind, 2);
            for (int lane = 0; lane < 3; lane++) {
                due("lane " + kind + " taken as " + lane, x.judge(1, 2, lane, 0), kind == lane ? 0 : -13);
            }
        }
        CHECK.says("32: -20 less i: CELL f + i is below 0; the first met");
        x.sheet(3, 2, 4);
        layAll(x, 3, 0, 5, -1, LOW);
        due("the second cell from 1 on", x.judge(1, 3, 2, 1), -21);
        due("the first of two", x.judge(1, 3, 2, 2), -20);
        due("below 0 before INDEX", x.judge(1, 3, 2, 3), -20);
        due("what is not asked for does not matter", x.judge(1, 3, 2, 0), 0);
        x.lay(3, 3, 5);
        due("INDEX behind a cell that is not below 0", x.judge(1, 3, 2, 3), -12);
        due("below 0 though not at rest", x.judge(2, 3, 2, 1), -21);
    }

    private static void count() {
        CHECK.says("33: 0 STATES, 1 bytes on THE TAPE, 2 CELLS of SHEET 0 (NONE: nothing)");
        CrowdedLanes x = new CrowdedLanes();
        due("states at first", x.count(0), 16);
        due("bytes at first", x.count(1), 0);
        due("cells at first", x.count(2), NONE);
        for (int i = 1; i <= 16; i++) {
            x.feed(BLANKS);
            due("bytes", x.count(1), Math.min(8 * i, 120));
        }
        x.text();
        due("bytes behind a text", x.count(1), 0);
        x.sheet(3, 0, 7);
        due("not of another sheet", x.count(2), NONE);
        x.sheet(0, 0, -1);
        due("not of a refused one", x.count(2), NONE);
        x.sheet(0, 0, 0);
        due("no cell is not nothing", x.count(2), 0);
        x.sheet(0, 2, 64);
        due("the most cells", x.count(2), 64);
        Check.tell(x, "open 1;");
        due("the least states", x.count(0), 2);
        Check.tell(x, "open 6;");
        due("the most states", x.count(0), 64);
        CHECK.says("33: BAD");
        CHECK.bounds("what", 0, 2, BAD, x::count);
    }
}
