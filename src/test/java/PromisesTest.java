/** Promise by promise: ordinary numbers, the edges that the document names, and wrong ones. */
public final class PromisesTest {
    private static final int BAD = -1, STATE = -2, FULL = -3, NONE = -4, SPENT = -6;
    private static final int LOW = Integer.MIN_VALUE, HIGH = Integer.MAX_VALUE;
    private static final Check CHECK = new Check("PromisesTest");

    public static void main(String[] args) {
        newObject();
        feed();
        end();
        textTaken();
        textFaults();
        fault();
        told();
        rate();
        of();
        parts();
        rest();
        through();
        even();
        worth();
        all();
        flow();
        full();
        both();
        rule();
        shock();
        atOnce();
        round();
        run();
        coupled();
        cells();
        orders();
        ways();
        view();
        seen();
        word();
        sheet();
        lay();
        judge();
        judgeFaults();
        count();
        CHECK.close();
    }

    private static void due(String call, long got, long want) {
        CHECK.due(call, got, want);
    }

    private static void toldRow(String what, CrowdedLanes x, int... row) {
        for (int i = 0; i < row.length; i++) {
            due(what + " told(" + i + ")", x.told(i), row[i]);
        }
    }

    // ---- the lane

    private static void newObject() {
        CrowdedLanes x = new CrowdedLanes();
        toldRow("new", x, 4, 0, 1, 0, 1, 0, 1, 0);
        due("new fault", x.fault(), 0);
        due("new count(0)", x.count(0), 16);
        due("new count(1)", x.count(1), 0);
        due("new count(2)", x.count(2), NONE);
        for (int k = 0; k < 4; k++) {
            due("new sheet " + k, x.lay(k, 0, 1), -11);
        }
        CrowdedLanes y = new CrowdedLanes();
        x.sheet(0, 0, 3);
        Check.tell(x, "open 2;");
        due("another object keeps its lane", y.count(0), 16);
        due("another object keeps its sheets", y.count(2), NONE);
    }

    private static void feed() {
        CrowdedLanes x = new CrowdedLanes();
        for (int i = 1; i <= 15; i++) {
            due("feed", x.feed(0x2020202020202020L), 8 * i);
        }
        due("feed behind 120", x.feed(0), FULL);
        due("feed refused keeps the tape", x.count(1), 120);
        x.end(113);
        due("feed behind 113", x.feed(0), FULL);
        x.end(112);
        due("feed behind 112", x.feed(0x2020202020202020L), 120);
        due("blanks are no line", x.text(), 0);
        // the highest byte first: "hop 2 7;"
        x.feed(0x686f70203220373bL);
        due("text of one long", x.text(), 1);
        due("R", x.told(2), 2);
        due("L", x.told(3), 7);
        x.feed(0x686f702039203b3bL);
        due("bytes in their order", x.text(), -16);
        // bytes above 127 are no token
        x.feed(0xe96f702032203720L);
        due("a byte above 127", x.text(), -10);
        due("its fault", x.fault(), 1);
    }

    private static void end() {
        CrowdedLanes x = new CrowdedLanes();
        due("end(0) of nothing", x.end(0), 0);
        due("end(1) of nothing", x.end(1), BAD);
        due("end(-1)", x.end(-1), BAD);
        x.feed(0);
        x.feed(0);
        due("end(17)", x.end(17), BAD);
        due("refused", x.count(1), 16);
        due("end(16)", x.end(16), 16);
        due("end(3)", x.end(3), 16);
        due("end(4)", x.end(4), BAD);
        due("end(3) again", x.end(3), 3);
        due("end(LOW)", x.end(LOW), BAD);
        due("end(HIGH)", x.end(HIGH), BAD);
        due("end(0)", x.end(0), 3);
        Check.write(x, "ring 5;xx");
        x.end(7);
        due("what is cut off is not read", x.text(), 1);
        due("n", x.told(0), 5);
    }

    private static void textTaken() {
        CrowdedLanes x = new CrowdedLanes();
        due("all lines", Check.tell(x, "open 6;hop 2 3;in 4 5;out 6 7;"), 4);
        toldRow("all lines", x, 6, 1, 2, 3, 4, 5, 6, 7);
        due("the tape is empty then", x.count(1), 0);
        due("other order, no blanks", Check.tell(x, "out1 2;in3 4;hop5 6;ring2;"), 4);
        toldRow("other order", x, 2, 0, 5, 6, 3, 4, 1, 2);
        due("one line", Check.tell(x, "in 0 9;"), 1);
        toldRow("what is not told is as at first", x, 4, 0, 1, 0, 0, 9, 1, 0);
        due("many blanks", Check.tell(x, "   hop   0    9   ;   open  1  ;  "), 2);
        toldRow("many blanks", x, 1, 1, 0, 9, 1, 0, 1, 0);
        due("two figures", Check.tell(x, "ring 06;hop 09 00;"), 2);
        toldRow("two figures", x, 6, 0, 9, 0, 1, 0, 1, 0);
        due("no line", Check.tell(x, ""), 0);
        toldRow("no line", x, 4, 0, 1, 0, 1, 0, 1, 0);
        due("120 bytes", Check.tell(x, "ring 2;" + " ".repeat(106) + "in 1 1;"), 2);
        for (int n = 2; n <= 6; n++) {
            due("ring " + n, Check.tell(x, "ring " + n + ";"), 1);
            due("its n", x.told(0), n);
        }
        for (int n = 1; n <= 6; n++) {
            due("open " + n, Check.tell(x, "open " + n + ";"), 1);
            due("its n", x.told(0), n);
            due("it is open", x.told(1), 1);
        }
    }

    private static void refused(String text, int place, int fault) {
        CrowdedLanes x = Check.lane("open 3;hop 9 8;in 7 6;out 5 4;");
        due("text " + text, Check.tell(x, text), -10 - place);
        due("fault of " + text, x.fault(), fault);
        toldRow("what was told stays behind " + text, x, 3, 1, 9, 8, 7, 6, 5, 4);
        due("the tape is empty behind " + text, x.count(1), 0);
        due("worths stay behind " + text, x.rate(0, 1), 7);
    }

    private static void textFaults() {
        // no token, a name that is none of these, a number that is too long
        refused("Ring 4;", 0, 1);
        refused(" #", 1, 1);
        refused("ring 4;\tin 1 1;", 7, 1);
        refused("ring -4;", 5, 1);
        refused("\0", 0, 1);
        refused("rings 4;", 0, 1);
        refused("aring 4;", 0, 1);
        refused("hopin 1 1;", 0, 1);
        refused("o", 0, 1);
        refused("hopz 1 1;", 0, 1);
        refused("hopa 1 1;", 0, 1);
        refused("hop{1 1;", 3, 1);
        refused("hop`1 1;", 3, 1);
        refused("hop 1/1;", 5, 1);
        refused("hop 1:1;", 5, 1);
        refused("hop x", 4, 1);
        refused("hop 1 2 x", 8, 1);
        refused("hop 123 1;", 4, 1);
        refused("ring 004;", 5, 1);
        refused("123", 0, 1);
        refused("ring 4;;", 7, 2);
        // a token that can not stand there, or the end
        refused("4", 0, 2);
        refused(";", 0, 2);
        refused("ring", 4, 2);
        refused("ring  ", 6, 2);
        refused("ring;", 4, 2);
        refused("ring ring", 5, 2);
        refused("ring 4", 6, 2);
        refused("ring 4 4;", 7, 2);
        refused("ring 4 hop", 7, 2);
        refused("hop 1;", 5, 2);
        refused("hop 1", 5, 2);
        refused("hop 1 2 3;", 8, 2);
        refused("hop 12;", 4, 3);
        refused("in 1 1;out", 10, 2);
        refused("in 1 out", 5, 2);
        // a number out of its bounds
        refused("ring 1;", 5, 3);
        refused("ring 7;", 5, 3);
        refused("ring 00;", 5, 3);
        refused("open 0;", 5, 3);
        refused("open 7;", 5, 3);
        refused("hop 10 1;", 4, 3);
        refused("hop 1 10;", 6, 3);
        refused("in 1 99;", 5, 3);
        refused("out 11 1", 4, 3);
        refused("ring 7", 5, 3);
        // what is told already
        refused("ring 4;ring 4;", 7, 4);
        refused("open 4;ring 4;", 7, 4);
        refused("ring 4;open 4;", 7, 4);
        refused("open 4; open", 8, 4);
        refused("hop 1 1;in 1 1;hop 1 1;", 15, 4);
        refused("in 1 1;in", 7, 4);
        refused("out 1 1;out 10", 8, 4);
        // the first met as it is read
        refused("ring 7 #", 5, 3);
        refused("ring 4;ring #", 7, 4);
        refused("ring # 7", 5, 1);
        refused("4 #", 0, 2);
    }

    private static void fault() {
        CrowdedLanes x = new CrowdedLanes();
        due("before any text", x.fault(), 0);
        Check.tell(x, "ring 9;");
        due("of a bound", x.fault(), 3);
        Check.write(x, "x");
        due("a tape is no text yet", x.fault(), 3);
        x.text();
        due("of a name", x.fault(), 1);
        due("asked again", x.fault(), 1);
        Check.tell(x, "ring 5;");
        due("of a text that is taken", x.fault(), 0);
    }

    private static void told() {
        CrowdedLanes x = Check.lane("open 5;hop 3 4;in 5 6;out 7 8;");
        toldRow("told", x, 5, 1, 3, 4, 5, 6, 7, 8);
        for (int what : new int[] {-1, 8, LOW, HIGH}) {
            due("told(" + what + ")", x.told(what), BAD);
        }
    }

    private static void rate() {
        CrowdedLanes x = Check.lane("ring 4;hop 2 3;");
        due("to the right", x.rate(1, 2), 2);
        due("to the left", x.rate(2, 1), 3);
        due("round to the right", x.rate(8, 1), 2);
        due("round to the left", x.rate(1, 8), 3);
        due("two places on", x.rate(1, 4), 0);
        due("the same", x.rate(5, 5), 0);
        due("no free place", x.rate(3, 6), 0);
        due("one of two", x.rate(3, 5), 2);
        due("ends do not matter on a ring", x.rate(0, 1), 0);
        for (int s : new int[] {-1, 16, LOW, HIGH}) {
            due("rate(" + s + ", 0)", x.rate(s, 0), BAD);
            due("rate(0, " + s + ")", x.rate(0, s), BAD);
        }
        CrowdedLanes two = Check.lane("ring 2;hop 2 3;");
        due("two ways", two.rate(1, 2), 5);
        due("two ways back", two.rate(2, 1), 5);
        CrowdedLanes open = Check.lane("open 3;hop 2 3;in 4 5;out 6 7;");
        due("in", open.rate(0, 1), 4);
        due("back in", open.rate(0, 4), 5);
        due("out", open.rate(4, 0), 6);
        due("back out", open.rate(1, 0), 7);
        due("right", open.rate(1, 2), 2);
        due("left", open.rate(4, 2), 3);
        due("not round to the right", open.rate(4, 1), 0);
        due("not round to the left", open.rate(1, 4), 0);
        due("in beside a grain", open.rate(2, 3), 4);
        due("no in where a grain is", open.rate(1, 5), 5);
        CrowdedLanes one = Check.lane("open 1;in 4 5;out 6 7;");
        due("both in", one.rate(0, 1), 9);
        due("both out", one.rate(1, 0), 13);
    }

    private static void of() {
        CrowdedLanes x = Check.lane("open 2;hop 2 0;in 3 0;out 4 0;");
        // 0 -> 1 -> 2 -> 0 and 2 -> 3 -> 1
        int[][] due = {
            {3, 1, 4, 4, 1, 0, 0}, {2, 1, 4, 4, 1, 0, 1}, {7, 2, 4, 4, 1, 0, 1}, {4, 1, 4, 4, 1, 0, 2},
        };
        for (int s = 0; s < 4; s++) {
            for (int what = 0; what < 7; what++) {
                due("of(" + s + ", " + what + ")", x.of(s, what), due[s][what]);
            }
        }
        for (int bad : new int[] {-1, 7, LOW, HIGH}) {
            due("of(0, " + bad + ")", x.of(0, bad), BAD);
            due("of(" + bad + ", 0)", x.of(bad, 0), BAD);
        }
        due("of(4, 6)", x.of(4, 6), BAD);
        CrowdedLanes drain = Check.lane("open 2;in 0 0;out 1 0;");
        // 3 -> 1 -> 2 -> 0: no one comes back
        due("drain reaches from 3", drain.of(3, 2), 4);
        due("drain reaches from 1", drain.of(1, 2), 3);
        due("drain reaches from 0", drain.of(0, 2), 1);
        due("drain part", drain.of(3, 3), 1);
        due("drain is not shut", drain.of(3, 4), 0);
        due("drain least", drain.of(2, 5), 2);
        due("drain end is shut", drain.of(0, 4), 1);
        CrowdedLanes two = Check.lane("ring 2;hop 2 3;");
        due("two ways to one state", two.of(1, 1), 1);
        due("rates of both", two.of(1, 0), 5);
        CrowdedLanes six = Check.lane("ring 6;hop 1 1;");
        due("three of six", six.of(42, 3), 20);
        due("hops of each", six.of(42, 1), 6);
        due("their least", six.of(42, 5), 7);
        due("reach of the highest bit", Check.lane("open 6;").of(63, 2), 64);
        due("part of the highest state", Check.lane("open 6;").of(63, 5), 0);
    }

    private static void parts() {
        CrowdedLanes x = Check.lane("ring 6;");
        due("one part for each number of grains", x.parts(0), 7);
        due("all shut", x.parts(1), 7);
        due("greatest", x.parts(2), 20);
        for (int what : new int[] {-1, 3, LOW, HIGH}) {
            due("parts(" + what + ")", x.parts(what), BAD);
        }
        CrowdedLanes drain = Check.lane("open 3;in 0 0;out 1 0;");
        due("drain parts", drain.parts(0), 8);
        due("drain shut", drain.parts(1), 1);
        due("drain greatest shut", drain.parts(2), 1);
        // grains pile up on the right and place 0 goes on: the greatest shut part is not the greatest one
        CrowdedLanes pile = Check.lane("open 2;hop 1 0;in 2 0;out 0 3;");
        due("pile parts", pile.parts(0), 2);
        due("pile shut", pile.parts(1), 1);
        due("pile greatest shut", pile.parts(2), 2);
        due("still", Check.lane("ring 5;hop 0 0;").parts(1), 32);
        due("one part", Check.lane("open 6;").parts(0), 1);
        due("of 64", Check.lane("open 6;").parts(2), 64);
        Check.tell(x, "ring 2;");
        due("found anew by a text", x.parts(0), 3);
    }

    private static void fractionOf(String what, long over, long under, long dueOver, long dueUnder) {
        due(what + " numerator", over, dueOver);
        due(what + " denominator", under, dueUnder);
    }

    private static void rest() {
        CrowdedLanes x = Check.lane("open 2;hop 2 0;in 3 0;out 4 0;");
        // what comes and goes: 3 w0 = 4 w2, 2 w1 = 3 w0 + 4 w3, 4 w3 = 3 w2
        long[] weight = {16, 42, 12, 9};
        for (int s = 0; s < 4; s++) {
            fractionOf("rest of " + s, x.rest(s, 0), x.rest(s, 1), weight[s], 79);
        }
        CrowdedLanes ring = Check.lane("ring 4;hop 5 2;");
        fractionOf("a ring is even in shares", ring.rest(10, 0), ring.rest(10, 1), 1, 6);
        fractionOf("alone", ring.rest(15, 0), ring.rest(15, 1), 1, 1);
        CrowdedLanes one = Check.lane("open 1;in 1 2;out 4 5;");
        fractionOf("one place, free", one.rest(0, 0), one.rest(0, 1), 3, 4);
        fractionOf("one place, full", one.rest(1, 0), one.rest(1, 1), 1, 4);
        due("s", x.rest(4, 0), BAD);
        due("s below", x.rest(-1, 0), BAD);
        due("what", x.rest(0, 2), BAD);
        due("what below", x.rest(0, -1), BAD);
        CrowdedLanes drain = Check.lane("open 6;in 0 0;out 1 0;");
        due("not shut", drain.rest(1, 0), NONE);
        due("not shut, but BAD is first", drain.rest(1, 2), BAD);
        fractionOf("drained", drain.rest(0, 0), drain.rest(0, 1), 1, 1);
        CrowdedLanes wide = Check.lane("open 4;");
        due("more than 8", wide.rest(0, 0), SPENT);
        due("more than 8, BAD is first", wide.rest(16, 0), BAD);
        due("8 and no more", Check.lane("open 3;").rest(0, 1), 14);
        // a part of more than 8 that is not shut
        CrowdedLanes leak = Check.lane("open 6;hop 1 1;in 0 0;out 0 1;");
        due("a great part that is not shut", leak.rest(7, 0), NONE);
        Check.tell(x, "open 2;hop 1 0;in 1 0;out 1 0;");
        fractionOf("found anew by a text", x.rest(1, 0), x.rest(1, 1), 2, 5);
        due("parts in turn", ring.rest(1, 1) * 100 + ring.rest(3, 1) * 10 + ring.rest(1, 1), 464);
    }

    private static void through() {
        CrowdedLanes x = Check.lane("open 2;hop 2 0;in 3 0;out 4 0;");
        fractionOf("through", x.through(3, 0), x.through(3, 1), 84, 79);
        CrowdedLanes ring = Check.lane("ring 4;hop 1 4;");
        fractionOf("to the left", ring.through(3, 0), ring.through(3, 1), -1, 1);
        fractionOf("nothing goes", ring.through(0, 0), ring.through(15, 1), 0, 1);
        CrowdedLanes two = Check.lane("ring 2;hop 2 3;");
        fractionOf("one way of two", two.through(1, 0), two.through(1, 1), -1, 2);
        CrowdedLanes one = Check.lane("open 1;in 1 2;out 4 5;");
        fractionOf("one place", one.through(0, 0), one.through(1, 1), -1, 2);
        fractionOf("alike both ways", Check.lane("ring 3;hop 4 4;").through(1, 0),
                Check.lane("ring 3;hop 4 4;").through(1, 1), 0, 1);
        due("s", x.through(4, 0), -100);
        due("s below", x.through(-1, 1), -100);
        due("what", x.through(0, 2), -100);
        due("what below", x.through(0, -1), -100);
        due("not shut", Check.lane("open 2;in 0 0;").through(1, 0), -104);
        due("more than 8", Check.lane("ring 5;").through(3, 0), -106);
    }

    private static void even() {
        due("both ways alike", Check.lane("ring 4;hop 2 2;").even(5), 1);
        due("one way", Check.lane("ring 4;hop 2 0;").even(5), 0);
        due("more to one side", Check.lane("ring 3;hop 2 1;").even(1), 0);
        due("shut ends stand evenly", Check.lane("open 3;hop 2 1;in 0 0;out 0 0;").even(1), 1);
        due("a through flow is not even", Check.lane("open 3;hop 1 1;in 2 1;out 2 1;").even(1), 0);
        due("ends that agree", Check.lane("open 3;hop 1 1;in 2 2;out 1 1;").even(7), 1);
        due("alone", Check.lane("ring 4;").even(0), 1);
        // by the rates between states, whatever ways they are made of
        due("two states", Check.lane("ring 2;hop 2 3;").even(1), 1);
        due("one place", Check.lane("open 1;in 1 2;out 4 5;").even(0), 1);
        due("s", new CrowdedLanes().even(16), BAD);
        due("s below", new CrowdedLanes().even(-1), BAD);
        due("not shut", Check.lane("open 2;in 0 0;").even(2), NONE);
        due("more than 8", Check.lane("ring 6;").even(7), SPENT);
    }

    // ---- words

    private static final String[] NO_WORDS = {
        "ring 3;", "open 3;hop 2 0;", "open 3;hop 0 0;", "open 3;hop 1 1;", "open 3;in 1 1;", "open 3;in 0 0;",
        "open 3;out 1 1;", "open 3;out 0 0;",
    };

    private static void worth() {
        CrowdedLanes x = Check.lane("open 2;in 2 0;out 3 0;");
        long[] due = {9, 30, 6, 4};
        for (int s = 0; s < 4; s++) {
            due("worth(" + s + ")", x.worth(s), due[s]);
        }
        due("worth(4)", x.worth(4), BAD);
        due("worth(-1)", x.worth(-1), BAD);
        // grains at 0 and 2 of four: the first one with a free place behind it is at 0
        CrowdedLanes four = Check.lane("open 4;in 1 0;out 1 0;");
        due("worth of 1010", four.worth(5), 5);
        due("worth of 1100", four.worth(3), 6);
        CrowdedLanes one = Check.lane("open 1;in 7 0;out 5 0;");
        due("one place free", one.worth(0), 5);
        due("one place full", one.worth(1), 7);
        for (String text : NO_WORDS) {
            due("worth: " + text, Check.lane(text).worth(0), STATE);
            due("worth, BAD first: " + text, Check.lane(text).worth(8), BAD);
        }
        Check.tell(x, "open 2;in 3 0;out 3 0;");
        due("found anew by a text", x.worth(1), 54);
    }

    private static void all() {
        CrowdedLanes x = Check.lane("open 6;");
        long[] catalan = {1, 2, 5, 14, 42, 132, 429};
        for (int m = 0; m <= 6; m++) {
            due("all(" + m + ")", x.all(m), catalan[m]);
        }
        due("all(7)", x.all(7), BAD);
        due("all(-1)", x.all(-1), BAD);
        CrowdedLanes three = Check.lane("open 3;in 2 0;out 3 0;");
        due("all(3)", three.all(3), 653);
        due("above n", three.all(4), BAD);
        for (String text : NO_WORDS) {
            due("all: " + text, Check.lane(text).all(0), STATE);
            due("all, BAD first: " + text, Check.lane(text).all(4), BAD);
        }
    }

    private static void flow() {
        CrowdedLanes x = Check.lane("open 6;");
        fractionOf("flow", x.flow(0), x.flow(1), 4, 13);
        CrowdedLanes three = Check.lane("open 3;in 2 0;out 3 0;");
        fractionOf("flow of three", three.flow(0), three.flow(1), 294, 653);
        CrowdedLanes one = Check.lane("open 1;in 2 0;out 4 0;");
        fractionOf("flow of one", one.flow(0), one.flow(1), 4, 3);
        due("what", x.flow(2), BAD);
        due("what below", x.flow(-1), BAD);
        for (String text : NO_WORDS) {
            due("flow: " + text, Check.lane(text).flow(1), STATE);
            due("flow, BAD first: " + text, Check.lane(text).flow(2), BAD);
        }
    }

    private static void full() {
        CrowdedLanes x = Check.lane("open 2;in 2 0;out 3 0;");
        // worths 9, 30, 6, 4
        fractionOf("full 0", x.full(0, 0), x.full(0, 1), 34, 49);
        fractionOf("full 1", x.full(1, 0), x.full(1, 1), 10, 49);
        CrowdedLanes six = Check.lane("open 5;");
        fractionOf("in the middle", six.full(2, 0), six.full(2, 1), 1, 2);
        due("i", x.full(2, 0), BAD);
        due("i below", x.full(-1, 0), BAD);
        due("i far", x.full(32, 0), BAD);
        due("what", x.full(0, 2), BAD);
        for (String text : NO_WORDS) {
            due("full: " + text, Check.lane(text).full(2, 0), STATE);
            due("full, BAD first: " + text, Check.lane(text).full(3, 0), BAD);
        }
    }

    private static void both() {
        CrowdedLanes x = Check.lane("open 2;in 2 0;out 3 0;");
        fractionOf("both", x.both(0, 1, 0), x.both(1, 0, 1), 4, 49);
        CrowdedLanes three = Check.lane("open 3;in 2 0;out 3 0;");
        fractionOf("first and last", three.both(2, 0, 0), three.both(0, 2, 1), 68, 653);
        due("alike", three.both(1, 1, 0), BAD);
        due("i", three.both(3, 0, 0), BAD);
        due("j", three.both(0, 3, 0), BAD);
        due("i below", three.both(-1, 0, 0), BAD);
        due("j below", three.both(0, -1, 0), BAD);
        due("what", three.both(0, 1, 2), BAD);
        due("one place", Check.lane("open 1;").both(0, 0, 0), BAD);
        for (String text : NO_WORDS) {
            due("both: " + text, Check.lane(text).both(0, 1, 0), STATE);
            due("both, BAD first: " + text, Check.lane(text).both(0, 0, 0), BAD);
        }
    }

    private static void rule() {
        CrowdedLanes x = new CrowdedLanes();
        int[][] due = {
            {1, 1, 3}, {4, 4, 3}, {5, 5, 2}, {10, 10, 2}, {5, 10, 2}, {10, 5, 2}, {4, 5, 0}, {1, 10, 0}, {3, 4, 0},
            {5, 4, 1}, {10, 1, 1}, {4, 3, 1}, {0, 5, BAD}, {5, 0, BAD}, {11, 5, BAD}, {5, 11, BAD}, {LOW, 1, BAD},
            {1, HIGH, BAD},
        };
        for (int[] row : due) {
            due("rule(" + row[0] + ", " + row[1] + ")", x.rule(row[0], row[1]), row[2]);
        }
    }

    private static void shock() {
        CrowdedLanes x = new CrowdedLanes();
        int[][] due = {
            {0, 1, 9, 10, 0}, {1, 0, 9, 10, 0}, {0, 5, 1, 2, 0}, {3, 7, 0, 1, 1}, {10, 0, 0, 1, 1}, {10, 9, -9, 10, 0},
            {6, 9, -1, 2, 0}, {2, 4, 2, 5, 0}, {8, 10, -4, 5, 0},
        };
        for (int[] row : due) {
            for (int what = 0; what < 3; what++) {
                due("shock " + row[0] + " " + row[1] + " " + what, x.shock(row[0], row[1], what), row[2 + what]);
            }
        }
        for (int l = 0; l <= 10; l++) {
            due("alike", x.shock(l, l, l % 3), -104);
        }
        due("alike, but BAD is first", x.shock(5, 5, 3), -100);
        int[][] bad = {{-1, 5, 0}, {5, -1, 0}, {11, 5, 0}, {5, 11, 0}, {1, 2, 3}, {1, 2, -1}, {11, 11, 0}};
        for (int[] row : bad) {
            due("shock BAD", x.shock(row[0], row[1], row[2]), -100);
        }
    }

    // ---- all at once, draws

    private static void atOnce() {
        CrowdedLanes x = Check.lane("ring 5;hop 0 7;");
        due("no step", x.atOnce(3, 0), 3);
        due("one step", x.atOnce(3, 1), 5);
        due("two steps", x.atOnce(3, 2), 10);
        due("round", x.atOnce(16, 1), 1);
        due("last and first", x.atOnce(17, 1), 18);
        due("all at once, as all is", x.atOnce(5, 1), 10);
        due("full", x.atOnce(31, 1000), 31);
        due("1000 steps", x.atOnce(1, 1000), 1);
        due("999 steps", x.atOnce(1, 999), 16);
        due("s", x.atOnce(32, 1), BAD);
        due("s below", x.atOnce(-1, 1), BAD);
        due("m", x.atOnce(1, 1001), BAD);
        due("m below", x.atOnce(1, -1), BAD);
        due("two places", Check.lane("ring 2;").atOnce(1, 3), 2);
        CrowdedLanes open = Check.lane("open 5;");
        due("open", open.atOnce(1, 1), STATE);
        due("open, BAD first", open.atOnce(32, 1), BAD);
    }

    private static void round() {
        CrowdedLanes x = Check.lane("ring 5;hop 0 0;");
        int[][] due = {
            {0, 1, 0, 0}, {31, 1, 0, 0}, {1, 5, 0, 5}, {3, 5, 1, 10}, {5, 5, 0, 10}, {7, 5, 1, 10}, {15, 5, 0, 5},
        };
        for (int[] row : due) {
            for (int what = 0; what < 3; what++) {
                due("round(" + row[0] + ", " + what + ")", x.round(row[0], what), row[1 + what]);
            }
        }
        due("s", x.round(32, 0), BAD);
        due("s below", x.round(-1, 0), BAD);
        due("what", x.round(1, 3), BAD);
        due("what below", x.round(1, -1), BAD);
        CrowdedLanes six = Check.lane("ring 6;");
        due("three in a row: tail", six.round(7, 1), 2);
        due("three in a row: round", six.round(7, 0), 2);
        due("three in a row: hops", six.round(7, 2), 6);
        CrowdedLanes open = Check.lane("open 5;");
        due("open", open.round(1, 0), STATE);
        due("open, BAD first", open.round(1, 3), BAD);
    }

    private static void run() {
        CrowdedLanes x = Check.lane("ring 4;hop 0 9;");
        int s = 5;
        int seed = 1;
        int hops = 0;
        // the well known draws of seed 1
        int[] known = {16838, 5758, 10113, 17515, 31051, 5627, 23010, 7419, 16212, 4086};
        for (int m = 0; m < known.length; m++) {
            due("run " + m, x.run(5, seed, m, 0), s);
            due("hops " + m, x.run(5, seed, m, 1), hops);
            int i = known[m] % 4;
            int j = (i + 1) % 4;
            if ((s >> i & 1) == 1 && (s >> j & 1) == 0) {
                s = s & ~(1 << i) | 1 << j;
                hops++;
            }
        }
        // seed 0 leads on to 12345, whose bits 16 to 30 are 0
        due("one grain, seed 0", x.run(1, 0, 1, 0), 2);
        due("its hop", x.run(1, 0, 1, 1), 1);
        due("not its place", x.run(2, 0, 1, 1), 0);
        due("nothing to hop", x.run(0, 5, 200, 1), 0);
        due("no room to hop", x.run(15, 5, 200, 0), 15);
        due("200 ticks keep the grains", Integer.bitCount(x.run(7, -77, 200, 0)), 3);
        due("s", x.run(16, 1, 1, 0), BAD);
        due("s below", x.run(-1, 1, 1, 0), BAD);
        due("m", x.run(1, 1, 201, 0), BAD);
        due("m below", x.run(1, 1, -1, 0), BAD);
        due("what", x.run(1, 1, 1, 2), BAD);
        due("what below", x.run(1, 1, 1, -1), BAD);
        CrowdedLanes open = Check.lane("open 4;");
        due("open", open.run(1, 1, 1, 0), STATE);
        due("open, BAD first", open.run(1, 1, 1, 2), BAD);
    }

    private static void coupled() {
        CrowdedLanes x = Check.lane("ring 2;");
        // seed 1 draws 16838: place 0; the next one 5758: place 0
        due("unlike at first", x.coupled(1, 2, 1, 0, 0), 2);
        due("not alike yet", x.coupled(1, 2, 1, 0, 1), NONE);
        due("most at first", x.coupled(1, 2, 1, 0, 2), 2);
        due("alike behind one tick", x.coupled(1, 2, 1, 1, 0), 0);
        due("from tick 1 on", x.coupled(1, 2, 1, 5, 1), 1);
        due("from the last tick on", x.coupled(1, 2, 1, 1, 1), 1);
        due("the most is that at first", x.coupled(1, 2, 1, 5, 2), 2);
        due("alike from the first on", x.coupled(1, 1, 1, 0, 1), 0);
        due("alike from the first on, 7 ticks", x.coupled(2, 2, 3, 7, 1), 0);
        due("never alike", x.coupled(0, 1, 3, 200, 1), NONE);
        due("unlike in one", x.coupled(0, 1, 3, 200, 0), 1);
        due("most is one", x.coupled(3, 1, 3, 200, 2), 1);
        due("s", x.coupled(4, 1, 1, 1, 0), BAD);
        due("t", x.coupled(1, 4, 1, 1, 0), BAD);
        due("s below", x.coupled(-1, 1, 1, 1, 0), BAD);
        due("t below", x.coupled(1, -1, 1, 1, 0), BAD);
        due("m", x.coupled(1, 1, 1, 201, 0), BAD);
        due("m below", x.coupled(1, 1, 1, -1, 0), BAD);
        due("what", x.coupled(1, 1, 1, 1, 3), BAD);
        due("what below", x.coupled(1, 1, 1, 1, -1), BAD);
        CrowdedLanes open = Check.lane("open 2;");
        due("open", open.coupled(1, 2, 1, 1, 0), STATE);
        due("open, BAD first", open.coupled(4, 2, 1, 1, 0), BAD);
    }

    // ---- rims, walkers

    private static void cells() {
        CrowdedLanes x = Check.lane("open 1;");
        due("one hop", x.cells(1, 2), 1);
        due("from end to end", x.cells(1, 128), 7);
        due("four over four", x.cells(15, 240), 16);
        due("none", x.cells(0, 0), 0);
        due("itself", x.cells(170, 170), 0);
        due("to the left", x.cells(2, 1), NONE);
        due("not as many", x.cells(3, 4), NONE);
        due("one of two to the left", x.cells(6, 9), NONE);
        due("greater, but one goes back", x.cells(36, 66), NONE);
        for (int bad : new int[] {-1, 256, LOW, HIGH}) {
            due("s", x.cells(bad, 1), BAD);
            due("t", x.cells(1, bad), BAD);
        }
    }

    private static void orders() {
        CrowdedLanes x = Check.lane("open 1;");
        due("a rim of 2 by 2", x.orders(3, 12), 2);
        due("a rim of 2 by 3", x.orders(3, 24), 5);
        due("a rim of 3 by 3", x.orders(7, 56), 42);
        due("a rim of 4 by 4", x.orders(15, 240), 24024);
        due("two apart", x.orders(17, 68), 6);
        due("one grain", x.orders(1, 128), 1);
        due("itself", x.orders(99, 99), 1);
        due("to the left", x.orders(2, 1), 0);
        due("not as many", x.orders(1, 3), 0);
        due("asked again", x.orders(3, 12), 2);
        for (int bad : new int[] {-1, 256, LOW, HIGH}) {
            due("s", x.orders(bad, 1), BAD);
            due("t", x.orders(1, bad), BAD);
        }
    }

    private static void ways() {
        CrowdedLanes x = new CrowdedLanes();
        due("no step", x.ways(5, 5, 0), 1);
        due("no step, elsewhere", x.ways(5, 6, 0), 0);
        due("a step", x.ways(16, 32, 1), 1);
        due("no step in place", x.ways(16, 16, 1), 0);
        due("8 steps", x.ways(32, 32, 8), 70);
        due("at the left end", x.ways(1, 1, 4), 2);
        due("at the right end", x.ways(2048, 2048, 4), 2);
        due("beyond the right end", x.ways(2048, 1024, 1), 1);
        due("two that change places", x.ways(3, 3, 1), 1);
        due("two that would meet", x.ways(5, 5, 1), 0);
        due("two apart in 2 steps", x.ways(40, 40, 2), 3);
        due("two that must go apart", x.ways(5, 5, 2), 1);
        due("even to odd: not as many", x.ways(5, 6, 1), 0);
        due("four", x.ways(0x249, 0x249, 2), 8);
        due("even and odd ones in any row", x.ways(0b1001, 0b0110, 1), 1);
        due("none", x.ways(0, 0, 1), BAD);
        due("five", x.ways(31, 31, 0), BAD);
        due("not as many", x.ways(1, 3, 1), BAD);
        due("to none", x.ways(1, 0, 1), BAD);
        due("m", x.ways(1, 1, 9), BAD);
        due("m below", x.ways(1, 1, -1), BAD);
        for (int bad : new int[] {-1, 4096, LOW, HIGH}) {
            due("from", x.ways(bad, 1, 1), BAD);
            due("to", x.ways(1, bad, 1), BAD);
        }
    }

    // ---- two kinds

    private static void view() {
        CrowdedLanes x = Check.lane("ring 4;");
        due("both empty", x.view(0, 0), 0);
        due("no first kind", x.view(0, 15), 80);
        due("all first kind", x.view(15, 15), 40);
        due("its own place", x.view(2, 6), 3 + 2 * 9);
        due("to the left", x.view(4, 3), 2 + 3);
        due("round", x.view(1, 12), 2 * 9 + 27);
        due("the second one goes on", x.view(6, 14), 3 + 9 + 2 * 27);
        due("two at one", x.view(12, 7), 2 + 3 + 9);
        due("two on their way round", x.view(3, 13), 1 + 2 * 9 + 27);
        due("as many", x.view(5, 10), 3 + 27);
        due("more", x.view(3, 4), BAD);
        due("a", x.view(16, 15), BAD);
        due("b", x.view(0, 16), BAD);
        due("a below", x.view(-1, 15), BAD);
        due("b below", x.view(0, -1), BAD);
        CrowdedLanes open = Check.lane("open 1;");
        due("one place", open.view(1, 1), 1);
        due("one place, second kind", open.view(0, 1), 2);
        due("one place, nothing", open.view(0, 0), 0);
        due("one place, b", open.view(0, 2), BAD);
    }

    private static void seen() {
        CrowdedLanes x = Check.lane("ring 3;");
        int[][] due = {{0, 1}, {1, 3}, {2, 1}, {4, 3}, {5, 2}, {7, 1}, {13, 1}, {14, 1}, {26, 1}, {8, 1}};
        for (int[] row : due) {
            due("seen(" + row[0] + ")", x.seen(row[0]), row[1]);
        }
        int sum = 0;
        for (int word = 0; word < 27; word++) {
            sum += x.seen(word);
        }
        // pairs: 1 * 8 + 3 * 7 + 3 * 4 + 1 * 1
        due("all pairs are seen once", sum, 42);
        for (int bad : new int[] {-1, 27, LOW, HIGH}) {
            due("seen(" + bad + ")", x.seen(bad), BAD);
        }
        due("the last word of six", Check.lane("ring 6;").seen(728), 1);
        due("behind the last", Check.lane("ring 6;").seen(729), BAD);
        due("one place", Check.lane("open 1;").seen(1), 1);
    }

    private static void word() {
        CrowdedLanes x = Check.lane("ring 4;");
        int mixed = 1 + 2 * 3 + 0 * 9 + 1 * 27;
        // 1 2 0 1: 1 over 2, 2 over 0; 1 at 3 has 1 beside it
        due("hops out", x.word(mixed, 0), 2);
        due("first kind", x.word(mixed, 2), 2);
        due("second kind", x.word(mixed, 3), 1);
        int[] places = {1, 2, 0, 1};
        for (int i = 0; i < 4; i++) {
            due("place " + i, x.word(mixed, 10 + i), places[i]);
        }
        // only 1 2 1 0 leads to it, by places 2 and 3
        due("seen before", x.word(mixed, 1), x.seen(1 + 2 * 3 + 1 * 9));
        due("nothing hops when full of one kind", x.word(80, 0), 0);
        for (int bad : new int[] {-1, 4, 9, 14, LOW, HIGH}) {
            due("word what " + bad, x.word(0, bad), BAD);
        }
        for (int bad : new int[] {-1, 81, LOW, HIGH}) {
            due("word " + bad, x.word(bad, 0), BAD);
        }
        // shares seen stand at rest: what comes is what goes
        for (int n = 2; n <= 5; n++) {
            CrowdedLanes ring = Check.lane("ring " + n + ";");
            for (int w = 0; ring.seen(w) != BAD; w++) {
                due("stands " + n + ": " + w, ring.word(w, 1), ring.word(w, 0) * ring.seen(w));
            }
        }
        CrowdedLanes one = Check.lane("open 1;");
        due("one place has no hop", one.word(1, 0), 0);
        due("none before", one.word(1, 1), 0);
        due("place 0", one.word(2, 10), 2);
        due("no place 1", one.word(2, 11), BAD);
        CrowdedLanes two = Check.lane("ring 2;");
        due("two places: first over second", two.word(1 + 2 * 3, 0), 1);
        due("two places: before", two.word(1 + 2 * 3, 1), two.seen(2 + 3));
    }

    // ---- sheets

    private static void sheet() {
        CrowdedLanes x = new CrowdedLanes();
        due("nothing", x.count(2), NONE);
        due("a sheet", x.sheet(0, 0, 5), 1);
        due("its cells", x.count(2), 5);
        due("64", x.sheet(0, 2, 64), 1);
        due("its cells", x.count(2), 64);
        due("65", x.sheet(0, 2, 65), BAD);
        due("HIGH", x.sheet(0, 2, HIGH), BAD);
        due("below 0", x.sheet(0, 2, -1), -14);
        due("LOW", x.sheet(0, 2, LOW), -14);
        due("refused keeps it", x.count(2), 64);
        due("no cell", x.sheet(0, 1, 0), 1);
        due("it is there", x.count(2), 0);
        due("k", x.sheet(4, 0, 1), BAD);
        due("k below", x.sheet(-1, 0, 1), BAD);
        due("lane", x.sheet(0, 3, 1), BAD);
        due("lane below", x.sheet(0, -1, 1), BAD);
        due("BAD before SIZE: k", x.sheet(4, 0, -1), BAD);
        due("BAD before SIZE: lane", x.sheet(0, 3, -1), BAD);
        due("still there", x.count(2), 0);
        // a new row has cells 0, also where old ones stood
        CrowdedLanes still = Check.lane("ring 2;hop 0 0;");
        still.sheet(1, 2, 2);
        still.lay(1, 0, 7);
        due("not 0", still.judge(0, 1, 2, 0), 1);
        still.sheet(1, 2, 2);
        due("0 anew", still.judge(0, 1, 2, 0), 0);
        due("and another lane", still.sheet(1, 0, 2), 1);
        due("it is cast", still.judge(0, 1, 2, 0), -13);
    }

    private static void lay() {
        CrowdedLanes x = Check.lane("ring 2;hop 0 0;");
        for (int k = 0; k < 3; k++) {
            x.sheet(k, k, 4);
            due("lay", x.lay(k, 0, 1), 1);
            due("last", x.lay(k, 3, 1), 1);
            due("index", x.lay(k, 4, 1), -12);
            due("index below", x.lay(k, -1, 1), -12);
            due("index LOW", x.lay(k, LOW, 1), -12);
            due("index HIGH", x.lay(k, HIGH, 1), -12);
        }
        due("nothing", x.lay(3, 0, 1), -11);
        due("nothing before index", x.lay(3, -1, 1), -11);
        due("k", x.lay(4, 0, 1), BAD);
        due("k below", x.lay(-1, 0, 1), BAD);
        x.sheet(3, 0, 0);
        due("no cell", x.lay(3, 0, 1), -12);
        // the lowest bits of each lane: a cell of a part that is one state is judged 1, 0 or below 0
        int[] values = {0, 1, 127, 128, 255, 256, 257, 32767, 32768, 65535, 65536, 65537, LOW, HIGH, -1, -256, -65536};
        for (int v : values) {
            int[] cells = {(byte) v, (short) v, v};
            for (int k = 0; k < 3; k++) {
                x.lay(k, 2, v);
                due("cell of lane " + k + " from " + v, x.judge(1, k, k, 2), cells[k] < 0 ? -20 : cells[k] > 0 ? 1 : 0);
            }
        }
    }

    private static void layAll(CrowdedLanes x, int k, int... row) {
        for (int i = 0; i < row.length; i++) {
            x.lay(k, i, row[i]);
        }
    }

    private static void judge() {
        CrowdedLanes x = Check.lane("open 2;hop 2 0;in 3 0;out 4 0;");
        x.sheet(0, 0, 8);
        layAll(x, 0, 16, 42, 12, 9);
        for (int s = 0; s < 4; s++) {
            due("at rest", x.judge(s, 0, 0, 0), 1);
        }
        due("from another cell on", x.judge(0, 0, 0, 1), 0);
        layAll(x, 0, 7, 32, 84, 24, 18);
        due("twice as much", x.judge(0, 0, 0, 1), 1);
        x.lay(0, 4, 19);
        due("one changed", x.judge(0, 0, 0, 1), 0);
        layAll(x, 0, 0, 0, 0, 0);
        due("all 0", x.judge(0, 0, 0, 0), 0);
        CrowdedLanes ring = Check.lane("ring 6;hop 3 1;");
        ring.sheet(2, 2, 20);
        for (int i = 0; i < 20; i++) {
            ring.lay(2, i, HIGH);
        }
        due("great shares, 20 states", ring.judge(7, 2, 2, 0), 1);
        due("only the cells of the part", ring.judge(1, 2, 2, 14), 1);
        ring.lay(2, 19, HIGH - 1);
        due("one less", ring.judge(7, 2, 2, 0), 0);
        CrowdedLanes open = Check.lane("open 6;");
        open.sheet(1, 1, 64);
        for (int s = 0; s < 64; s++) {
            open.lay(1, s, (int) open.worth(s));
        }
        due("64 states by their worths", open.judge(63, 1, 1, 0), 1);
        open.lay(1, 63, 2);
        due("64 states, the last one changed", open.judge(63, 1, 1, 0), 0);
    }

    private static void judgeFaults() {
        CrowdedLanes x = Check.lane("open 2;in 0 0;out 0 0;hop 1 1;");
        x.sheet(0, 0, 3);
        x.sheet(1, 1, 3);
        x.sheet(2, 2, 3);
        for (int k = 0; k < 3; k++) {
            for (int lane = 0; lane < 3; lane++) {
                due("sheet " + k + " as lane " + lane, x.judge(1, k, lane, 0), k == lane ? 0 : -13);
            }
        }
        due("nothing", x.judge(1, 3, 0, 0), -11);
        due("nothing before index", x.judge(1, 3, 0, -1), -11);
        due("cast before index", x.judge(1, 0, 1, 9), -13);
        due("index", x.judge(1, 0, 0, 3), -12);
        due("index of the second cell", x.judge(1, 0, 0, 2), -12);
        due("index below", x.judge(1, 0, 0, -1), -12);
        due("index HIGH", x.judge(1, 0, 0, HIGH), -12);
        due("index LOW", x.judge(1, 0, 0, LOW), -12);
        x.lay(0, 2, -5);
        due("the second cell is below 0", x.judge(1, 0, 0, 1), -21);
        due("below 0 before index", x.judge(1, 0, 0, 2), -20);
        due("the first met", x.judge(0, 0, 0, 2), -20);
        due("s", x.judge(4, 0, 0, 0), BAD);
        due("s below", x.judge(-1, 0, 0, 0), BAD);
        due("k", x.judge(0, 4, 0, 0), BAD);
        due("k below", x.judge(0, -1, 0, 0), BAD);
        due("lane", x.judge(0, 0, 3, 0), BAD);
        due("lane below", x.judge(0, 0, -1, 0), BAD);
        CrowdedLanes drain = Check.lane("open 2;in 0 0;");
        due("not shut before nothing", drain.judge(1, 0, 0, 0), NONE);
        due("BAD before not shut", drain.judge(1, 4, 0, 0), BAD);
        due("shut, nothing", drain.judge(0, 0, 0, 0), -11);
    }

    private static void count() {
        CrowdedLanes x = new CrowdedLanes();
        x.sheet(1, 0, 9);
        due("only sheet 0 counts", x.count(2), NONE);
        x.sheet(0, 0, 9);
        due("cells", x.count(2), 9);
        x.feed(0);
        due("bytes", x.count(1), 8);
        x.end(5);
        due("bytes left", x.count(1), 5);
        x.end(0);
        Check.tell(x, "open 6;");
        due("states", x.count(0), 64);
        Check.tell(x, "open 1;");
        due("states of one", x.count(0), 2);
        due("a text keeps the sheets", x.count(2), 9);
        for (int bad : new int[] {-1, 3, LOW, HIGH}) {
            due("count(" + bad + ")", x.count(bad), BAD);
        }
        long[] before = Check.held(x);
        x.end(-1);
        x.sheet(0, 9, 1);
        x.lay(0, 99, 1);
        x.judge(0, 9, 9, 9);
        x.told(99);
        x.rest(99, 0);
        x.run(99, 1, 1, 1);
        CHECK.same("what is refused", before, Check.held(x));
    }
}
