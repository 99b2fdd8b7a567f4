/** The terms of the document, sentence by sentence: each one that names a boundary has a test of its own. */
public final class TermsTest {
    private static final int BAD = -1, STATE = -2, NONE = -4, SPENT = -6;
    private static final int LOW = Integer.MIN_VALUE, HIGH = Integer.MAX_VALUE;
    private static final Check CHECK = new Check("TermsTest");

    public static void main(String[] args) {
        firstThatFits();
        refusedChangesNothing();
        fractions();
        places();
        rates();
        tapePlaces();
        tokensAsLongAsMayBe();
        blanks();
        signs();
        tokenThatCanNotStand();
        numbersOutOfBounds();
        toldAlready();
        firstMet();
        toldAnew();
        ringHops();
        ringOfTwo();
        openHops();
        noHops();
        reaches();
        shut();
        eightStates();
        wordsHold();
        worths();
        rule();
        shock();
        allAtOnce();
        rounds();
        draws();
        coupled();
        rims();
        walkers();
        twoKinds();
        views();
        sheets();
        CHECK.close();
    }

    private static void due(String call, long got, long want) {
        CHECK.due(call, got, want);
    }

    // ---- answers

    private static void firstThatFits() {
        CHECK.says("BAD, STATE, FULL, NONE, SPENT, the first that fits");
        CrowdedLanes ring = Check.lane("ring 4;");
        due("worth", ring.worth(16), BAD);
        due("all", ring.all(5), BAD);
        due("flow", ring.flow(2), BAD);
        due("full", ring.full(4, 0), BAD);
        due("full, what", ring.full(0, 2), BAD);
        due("both", ring.both(1, 1, 0), BAD);
        due("both, what", ring.both(0, 1, -1), BAD);
        CrowdedLanes open = Check.lane("open 4;");
        due("atOnce", open.atOnce(1, 1001), BAD);
        due("round", open.round(16, 0), BAD);
        due("run", open.run(1, 1, 201, 0), BAD);
        due("coupled", open.coupled(1, 1, 1, 1, 3), BAD);
        // of 6 places, 3 grains that may go off at the left: 20 states reach one another, and others too
        CrowdedLanes leak = Check.lane("open 6;hop 1 1;in 0 0;out 0 1;");
        due("more than 8 reach one another", leak.of(7, 3), 20);
        due("rest, BAD before NONE", leak.rest(7, 2), BAD);
        due("rest, NONE before SPENT", leak.rest(7, 0), NONE);
        due("through, BAD before NONE", leak.through(7, 2), -100);
        due("through, NONE before SPENT", leak.through(7, 0), -104);
        due("even, BAD before NONE", leak.even(64), BAD);
        due("even, NONE before SPENT", leak.even(7), NONE);
        due("rest, BAD before SPENT", open.rest(0, 2), BAD);
        due("through, BAD before SPENT", open.through(0, 2), -100);
        due("even, BAD before SPENT", open.even(16), BAD);
        due("shock, BAD before NONE", open.shock(3, 3, 3), -100);
        due("judge, BAD before NONE", leak.judge(7, 4, 0, 0), BAD);
    }

    private static CrowdedLanes prepared() {
        CrowdedLanes x = Check.lane("open 2;hop 2 0;in 3 0;out 4 0;");
        Check.tell(x, "ring 9;");
        x.sheet(0, 0, 5);
        int[] row = {7, 16, 42, 12, 9};
        for (int i = 0; i < row.length; i++) {
            x.lay(0, i, row[i]);
        }
        x.sheet(1, 1, 0);
        Check.write(x, "in 5 6;" + " ".repeat(105) + "out 7 8;");
        return x;
    }

    private static void refusedCalls(CrowdedLanes x) {
        int refused = 0;
        long[] answers = {
            x.feed(0x3b3b3b3b3b3b3b3bL), x.end(121), x.end(-1), x.end(LOW), x.told(8), x.rate(4, 0), x.rate(0, -1),
            x.of(4, 0), x.of(0, 7), x.parts(3), x.rest(4, 0), x.rest(0, 2), x.through(4, 0), x.through(0, 2), x.even(4),
            x.worth(4), x.worth(0), x.all(3), x.all(0), x.flow(2), x.flow(0), x.full(2, 0), x.full(0, 0),
            x.both(0, 0, 0), x.both(0, 1, 0), x.rule(0, 1), x.shock(11, 0, 0), x.shock(1, 1, 0), x.atOnce(4, 1),
            x.atOnce(1, 1), x.round(4, 0), x.round(1, 0), x.run(4, 1, 1, 0), x.run(1, 1, 1, 0),
            x.coupled(4, 0, 1, 1, 0), x.coupled(0, 1, 1, 1, 0), x.cells(256, 1), x.cells(2, 1), x.orders(256, 1),
            x.ways(0, 0, 0), x.view(3, 1), x.view(4, 0), x.seen(9), x.word(9, 0), x.word(0, 4), x.sheet(0, 0, 65),
            x.sheet(0, 2, -1), x.sheet(0, 3, 5), x.sheet(4, 0, 5), x.lay(0, 5, 1), x.lay(0, -1, 1), x.lay(1, 0, 1),
            x.lay(2, 0, 1), x.lay(4, 0, 1), x.judge(4, 0, 0, 0), x.judge(0, 0, 1, 0), x.judge(0, 2, 0, 0),
            x.judge(0, 0, 0, 5), x.judge(0, 0, 0, 2), x.judge(0, 1, 1, 0), x.count(3),
        };
        for (long answer : answers) {
            refused += answer < 0 ? 1 : 0;
        }
        due("all are refused", refused, answers.length);
    }

    private static void refusedChangesNothing() {
        CHECK.says("what is refused changes nothing (but THE TAPE, as told)");
        CrowdedLanes x = prepared();
        CrowdedLanes y = prepared();
        refusedCalls(x);
        CHECK.same("a refused call", Check.held(y), Check.held(x));
        due("fault stays", x.fault(), 3);
        due("sheet 0 stays", x.judge(0, 0, 0, 1), 1);
        due("sheet 0 stays from its first cell on", x.judge(0, 0, 0, 0), 0);
        due("sheet 1 stays", x.judge(0, 1, 1, 0), -12);
        due("sheets 2 and 3 stay", x.lay(2, 0, 0) + x.lay(3, 0, 0), -22);
        CHECK.fraction("weights stay", what -> x.rest(1, what), 42, 79);
        due("the tape stays", x.count(1), 120);
        due("its bytes stay", x.text(), 2);
        due("told by its first bytes", x.told(4) * 10 + x.told(5), 56);
        due("told by its last bytes", x.told(6) * 10 + x.told(7), 78);
        due("a text that is refused", Check.tell(x, "hop 9 9;ring 1;"), -23);
        due("the tape is empty then", x.count(1), 0);
        due("nothing of it is told", x.told(2), 1);
    }

    private static void fractions() {
        CHECK.says("Fractions are in lowest terms, the denominator above 0; 0 is 0 by 1");
        CrowdedLanes ring = Check.lane("ring 4;hop 6 2;");
        CHECK.fraction("rest of a full ring", what -> ring.rest(15, what), 1, 1);
        CHECK.fraction("rest of one of six", what -> ring.rest(3, what), 1, 6);
        CHECK.fraction("through, 4 by 3", what -> ring.through(3, what), 4, 3);
        CHECK.fraction("through an empty ring", what -> ring.through(0, what), 0, 1);
        CHECK.fraction("through a full ring", what -> ring.through(15, what), 0, 1);
        CrowdedLanes left = Check.lane("ring 4;hop 2 8;");
        CHECK.fraction("through to the left", what -> left.through(3, what), -2, 1);
        CHECK.fraction("through to the left, one grain", what -> left.through(1, what), -3, 2);
        CrowdedLanes still = Check.lane("open 1;in 0 0;out 0 0;");
        CHECK.fraction("through one place that is still", what -> still.through(1, what), 0, 1);
        CrowdedLanes open = Check.lane("open 1;in 2 0;out 2 0;");
        CHECK.fraction("flow, 4 by 4", what -> open.flow(what), 1, 1);
        CHECK.fraction("full, 2 by 4", what -> open.full(0, what), 1, 2);
        CrowdedLanes two = Check.lane("open 2;in 2 0;out 2 0;");
        CHECK.fraction("both, 4 by 28", what -> two.both(0, 1, what), 1, 7);
        CHECK.fraction("a shock that stands", what -> open.shock(9, 1, what), 0, 1);
        CHECK.fraction("a shock to the left", what -> open.shock(10, 5, what), -1, 2);
        CHECK.fraction("a shock as fast as may be", what -> open.shock(0, 1, what), 9, 10);
        CHECK.fraction("a shock back as fast as may be", what -> open.shock(9, 10, what), -9, 10);
    }

    // ---- the lane and its text

    private static void refused(String text, int place, int fault) {
        CrowdedLanes x = Check.lane("open 3;hop 9 8;in 7 6;out 5 4;");
        due("text '" + text + "'", Check.tell(x, text), -10 - place);
        due("fault of '" + text + "'", x.fault(), fault);
        int[] told = {3, 1, 9, 8, 7, 6, 5, 4};
        for (int i = 0; i < told.length; i++) {
            due("told(" + i + ") behind '" + text + "'", x.told(i), told[i]);
        }
    }

    private static void taken(String text, int... told) {
        CrowdedLanes x = new CrowdedLanes();
        CHECK.holds("'" + text + "' is taken", Check.tell(x, text) >= 0);
        due("fault of '" + text + "'", x.fault(), 0);
        for (int i = 0; i < told.length; i++) {
            due("told(" + i + ") by '" + text + "'", x.told(i), told[i]);
        }
    }

    private static void places() {
        CHECK.says("THE LANE has n PLACES (0 to n - 1, 1 to 6; 4 at first)");
        due("at first", new CrowdedLanes().count(0), 16);
        for (int n = 1; n <= 6; n++) {
            CrowdedLanes x = Check.lane("open " + n + ";");
            int last = n - 1;
            due("states of " + n, x.count(0), 1 << n);
            CHECK.bounds("state of " + n, 0, (1 << n) - 1, BAD, s -> x.of(s, 6));
            CHECK.bounds("place of " + n, 0, last, BAD, i -> x.full(i, 0));
            due("in at place 0 of " + n, x.rate(0, 1), 1);
            due("out at the last place of " + n, x.rate(1 << last, 0), 1);
        }
    }

    private static void rates() {
        CHECK.says("RATES (0 to 9 each)");
        String[] names = {"hop", "in", "out"};
        for (int i = 0; i < 3; i++) {
            CrowdedLanes x = new CrowdedLanes();
            int place = names[i].length() + 1;
            due(names[i] + " 0 9", Check.tell(x, names[i] + " 0 9;"), 1);
            due(names[i] + " 0", x.told(2 + 2 * i), 0);
            due(names[i] + " 9", x.told(3 + 2 * i), 9);
            due(names[i] + " 9 0", Check.tell(x, names[i] + " 9 0;"), 1);
            due(names[i] + " 9", x.told(2 + 2 * i), 9);
            due(names[i] + " 0", x.told(3 + 2 * i), 0);
            refused(names[i] + " 10 0;", place, 3);
            refused(names[i] + " 0 10;", place + 2, 3);
            refused(names[i] + " 99 0;", place, 3);
            refused(names[i] + " 0 99;", place + 2, 3);
        }
    }

    private static void tapePlaces() {
        CHECK.says("THE TAPE has 120 bytes, places from 0");
        refused("#", 0, 1);
        refused("#" + " ".repeat(119), 0, 1);
        refused(" ".repeat(119) + "#", 119, 1);
        refused(" ".repeat(119) + ";", 119, 2);
        refused(" ".repeat(119) + "0", 119, 2);
        refused("ring 4" + " ".repeat(114), 120, 2);
        refused("ring 4;" + " ".repeat(106) + "open 5;", 113, 4);
        refused("in " + " ".repeat(114) + "123", 117, 1);
        refused("in 1" + " ".repeat(114) + "10", 118, 3);
        taken(" ".repeat(120), 4, 0, 1, 0, 1, 0, 1, 0);
        taken(" ".repeat(112) + "hop 3 4;", 4, 0, 3, 4);
    }

    private static void tokensAsLongAsMayBe() {
        CHECK.says("TOKENS, each as long as may be");
        refused("ringring 4;", 0, 1);
        refused("inout 1 1;", 0, 1);
        refused("a".repeat(120), 0, 1);
        refused("ring " + "4".repeat(115), 5, 1);
        refused("hop 12 3;", 4, 3);
        refused("hop 1 23;", 6, 3);
        taken("hop1 2;", 4, 0, 1, 2);
        taken("ring6;in3 4;", 6, 0, 1, 0, 3, 4);
        CHECK.says("NUMBERS (1 or 2 figures)");
        taken("ring 5;", 5);
        taken("ring 05;", 5);
        taken("hop 00 09;", 4, 0, 0, 9);
        refused("ring 005;", 5, 1);
        refused("hop 1 000;", 6, 1);
        refused("hop 000", 4, 1);
        CHECK.says("one ;");
        refused("ring 4;;", 7, 2);
        refused("; ring 4;", 0, 2);
        refused("ring 4; ;", 8, 2);
    }

    private static void blanks() {
        CHECK.says("blanks (32) between");
        taken("  ring   4  ;  hop 2   3;   ", 4, 0, 2, 3);
        for (int sign : new int[] {0, 9, 10, 11, 12, 13, 31, 33, 127, 128, 160, 255}) {
            refused("ring" + (char) sign + "4;", 4, 1);
            refused("ring 4;" + (char) sign, 7, 1);
            refused((char) sign + "ring 4;", 0, 1);
        }
    }

    private static void signs() {
        CHECK.says("1 no TOKEN");
        for (int sign = 0; sign < 256; sign++) {
            boolean begins = sign >= 'a' && sign <= 'z' || sign >= '0' && sign <= '9' || sign == ';' || sign == ' ';
            if (!begins) {
                refused("" + (char) sign, 0, 1);
                refused("hop" + (char) sign + "1 1;", 3, 1);
                refused("hop 1 1" + (char) sign, 7, 1);
            }
        }
        CHECK.says("1 a NAME that is none of these");
        String[] names = {
            "a", "z", "i", "o", "r", "rin", "rings", "aring", "ope", "opens", "ho", "hops", "ahop", "inn", "ou", "outs",
            "no", "tuo", "nepo", "aaaain", "aaaaring", "zzzzopen", "ahopin",
        };
        for (String name : names) {
            refused(name + " 4;", 0, 1);
            refused("in " + name + " 4;", 3, 1);
            refused("ring 4 " + name, 7, 1);
        }
        CHECK.says("1 a NUMBER that is too long (its first byte)");
        refused("000", 0, 1);
        refused("ring 123", 5, 1);
        refused("ring  0004;", 6, 1);
        refused("out 9 999", 6, 1);
        refused("out 9 9 999", 8, 1);
        // as an int it would wrap around to a number within the bounds
        refused("ring 4294967300;", 5, 1);
    }

    /** Puts other tokens in the place of each token of a line, and ends the text there. */
    private static void tokenThatCanNotStand() {
        CHECK.says("2 a TOKEN that can not stand there (or the end: the length)");
        String[] lines = {"ring 4 ;", "open 4 ;", "hop 1 2 ;", "in 1 2 ;", "out 1 2 ;"};
        String[] others = {"ring", "open", "hop", "in", "out", "1", "99", ";"};
        for (String line : lines) {
            String[] tokens = line.split(" ");
            String before = "";
            for (int i = 0; i < tokens.length; i++) {
                for (String other : others) {
                    if (kindOf(other) != kindOf(tokens[i])) {
                        refused(before + other, before.length(), 2);
                        refused(before + other + " # 123", before.length(), 2);
                    }
                }
                if (i > 0) {
                    refused(before, before.length(), 2);
                    refused(before.trim(), before.length() - 1, 2);
                }
                before += tokens[i] + " ";
            }
        }
    }

    private static int kindOf(String token) {
        char sign = token.charAt(0);
        return sign == ';' ? 0 : sign <= '9' ? 1 : 2;
    }

    private static void numbersOutOfBounds() {
        CHECK.says("ring, open: n (2 to 6; 1 to 6); 3 a NUMBER out of its bounds");
        for (int n = 0; n < 100; n++) {
            if (n >= 2 && n <= 6) {
                taken("ring " + n + ";", n, 0);
            } else {
                refused("ring " + n + ";", 5, 3);
            }
            if (n >= 1 && n <= 6) {
                taken("open " + n + ";", n, 1);
            } else {
                refused("open " + n + ";", 5, 3);
            }
        }
        refused("ring 00;", 5, 3);
        refused("ring 01;", 5, 3);
        taken("ring 02;", 2, 0);
        taken("open 01;", 1, 1);
        refused("open 00;", 5, 3);
    }

    private static void toldAlready() {
        CHECK.says("4 what is told already (its NAME; ring and open are one)");
        String[] lines = {"ring 4;", "open 4;", "hop 1 2;", "in 1 2;", "out 1 2;"};
        for (int i = 0; i < lines.length; i++) {
            for (int j = 0; j < lines.length; j++) {
                String name = lines[j].substring(0, lines[j].indexOf(' '));
                boolean again = i == j || i < 2 && j < 2;
                if (again) {
                    refused(lines[i] + lines[j], lines[i].length(), 4);
                    refused(lines[i] + " " + name, lines[i].length() + 1, 4);
                } else {
                    taken(lines[i] + lines[j]);
                }
            }
        }
        refused("ring 4;hop 1 1;in 1 1;out 1 1;open 4;", 30, 4);
        CrowdedLanes x = Check.lane("hop 2 2;");
        due("told by an earlier text is not told already", Check.tell(x, "hop 3 3;"), 1);
        Check.tell(x, "hop 4 4;ring 9;");
        due("told by a refused text is not told already", Check.tell(x, "hop 5 5;"), 1);
    }

    private static void firstMet() {
        CHECK.says("FAULTS, the first met as it is read (a TOKEN is read when the one before has been taken)");
        refused("ring 7#", 5, 3);
        refused("ring 7", 5, 3);
        refused("ring 4#;", 6, 1);
        refused("hop 10 123;", 4, 3);
        refused("hop 1 10#", 6, 3);
        refused("hop 1 123 #", 6, 1);
        refused("hop hop#", 4, 2);
        refused("4#", 0, 2);
        refused(";#", 0, 2);
        refused("ring 4;open#", 7, 4);
        refused("ring 4;open 9;", 7, 4);
        refused("ring 4;ring", 7, 4);
        refused("ring 9;ring 4;", 5, 3);
        refused("hop 1 1;#hop", 8, 1);
        refused("hop 1 1;hops", 8, 1);
    }

    private static void toldAnew() {
        CHECK.says("A text that is taken tells all anew (what is not told is as at first)");
        String all = "open 6;hop 9 8;in 7 6;out 5 4;";
        String[] texts = {"", "ring 2;", "open 1;", "hop 0 3;", "in 0 2;", "out 0 2;"};
        int[][] told = {
            {4, 0, 1, 0, 1, 0, 1, 0}, {2, 0, 1, 0, 1, 0, 1, 0}, {1, 1, 1, 0, 1, 0, 1, 0}, {4, 0, 0, 3, 1, 0, 1, 0},
            {4, 0, 1, 0, 0, 2, 1, 0}, {4, 0, 1, 0, 1, 0, 0, 2},
        };
        for (int i = 0; i < texts.length; i++) {
            CrowdedLanes x = Check.lane(all);
            x.parts(0);
            due("lines", Check.tell(x, texts[i]), texts[i].isEmpty() ? 0 : 1);
            for (int what = 0; what < 8; what++) {
                due("told(" + what + ") by '" + texts[i] + "'", x.told(what), told[i][what]);
            }
        }
        CrowdedLanes x = Check.lane("open 3;in 2 0;out 3 0;");
        x.parts(0);
        x.rest(0, 0);
        x.worth(0);
        Check.tell(x, "open 3;in 3 0;out 2 0;");
        due("parts are found anew", x.parts(2), 8);
        due("weights are found anew", x.rest(7, 0), 27);
        due("worths are found anew", x.worth(7), 27);
        Check.tell(x, "ring 3;hop 0 0;");
        due("parts are found anew on a ring", x.parts(0), 8);
        CHECK.fraction("weights are found anew on a ring", what -> x.rest(3, what), 1, 1);
    }

    // ---- hops

    private static void ringHops() {
        CHECK.says("on a RING PLACE n - 1 and 0 are beside one another");
        for (int n = 3; n <= 6; n++) {
            CrowdedLanes x = Check.lane("ring " + n + ";hop 2 3;");
            int last = 1 << n - 1;
            due("to the right round, " + n, x.rate(last, 1), 2);
            due("to the left round, " + n, x.rate(1, last), 3);
            due("both ends full, " + n, x.of(1 | last, 0), 5);
            due("full, " + n, x.of((1 << n) - 1, 0), 0);
            due("empty, " + n, x.of(0, 0), 0);
            due("nothing comes in, " + n, x.rate(0, 1) + x.rate(0, last), 0);
            due("nothing goes out, " + n, x.rate(1, 0) + x.rate(last, 0), 0);
        }
        CHECK.says("A GRAIN goes to i + 1 by R, to i - 1 by L, if that is free");
        CrowdedLanes x = Check.lane("ring 6;hop 2 3;");
        due("free both ways", x.of(4, 0), 5);
        due("not over a grain at its right", x.rate(12, 24), 0);
        due("a grain at its right alone", x.rate(12, 10), 3);
        due("a grain at its left alone", x.rate(12, 20), 2);
        due("between two grains", x.of(14, 1), 2);
        due("a step of two", x.rate(4, 16), 0);
        due("two grains at once", x.rate(9, 18), 0);
    }

    private static void ringOfTwo() {
        CHECK.says("with 2 PLACES there are two such ways from one to the other");
        CrowdedLanes x = Check.lane("ring 2;hop 2 3;");
        due("there", x.rate(1, 2), 5);
        due("back", x.rate(2, 1), 5);
        due("rates", x.of(1, 0), 5);
        due("one state", x.of(1, 1), 1);
        due("a part of two", x.of(2, 3), 2);
        CrowdedLanes right = Check.lane("ring 2;hop 4 0;");
        due("by R alone", right.rate(1, 2) * 10 + right.rate(2, 1), 44);
        CrowdedLanes left = Check.lane("ring 2;hop 0 7;");
        due("by L alone", left.rate(1, 2) * 10 + left.rate(2, 1), 77);
        due("full and empty", x.of(0, 0) + x.of(3, 0), 0);
    }

    private static void openHops() {
        CHECK.says("OPEN: IN, if PLACE 0 is free; BACK OUT, if it is not; OUT, if PLACE n - 1 is not free; BACK IN, if it is");
        for (int n = 2; n <= 6; n++) {
            CrowdedLanes x = Check.lane("open " + n + ";hop 0 0;in 2 3;out 4 5;");
            int last = 1 << n - 1;
            due("in of " + n, x.rate(0, 1), 2);
            due("back in of " + n, x.rate(0, last), 3);
            due("out of " + n, x.rate(last, 0), 4);
            due("back out of " + n, x.rate(1, 0), 5);
            due("empty " + n, x.of(0, 0), 5);
            due("full " + n, x.of((1 << n) - 1, 0), 9);
            due("first alone " + n, x.of(1, 0), 8);
            due("last alone " + n, x.of(last, 0), 6);
            CrowdedLanes y = Check.lane("open " + n + ";hop 6 7;in 0 0;out 0 0;");
            due("not round to the right of " + n, y.rate(last, 1), n == 2 ? 7 : 0);
            due("not round to the left of " + n, y.rate(1, last), n == 2 ? 6 : 0);
        }
        CrowdedLanes one = Check.lane("open 1;hop 9 9;in 2 3;out 4 5;");
        due("both ends of one place, in", one.rate(0, 1), 5);
        due("both ends of one place, out", one.rate(1, 0), 9);
    }

    private static void noHops() {
        CHECK.says("HOPS of rate 0 are none");
        CrowdedLanes x = Check.lane("open 3;hop 0 0;in 0 0;out 0 0;");
        for (int s = 0; s < 8; s++) {
            due("rates of " + s, x.of(s, 0), 0);
            due("states that hops lead to from " + s, x.of(s, 1), 0);
            due("states that " + s + " reaches", x.of(s, 2), 1);
        }
        due("only by R", Check.lane("ring 5;hop 1 0;").of(5, 1), 2);
        due("only by L", Check.lane("ring 5;hop 0 1;").of(5, 1), 2);
        due("by both", Check.lane("ring 5;hop 1 1;").of(5, 1), 4);
        CHECK.says("A HOP never leads to the same STATE");
        for (String text : new String[] {"open 1;in 9 9;out 9 9;", "ring 2;hop 9 9;", "open 3;hop 9 9;in 9 9;out 9 9;"}) {
            CrowdedLanes y = Check.lane(text);
            for (int s = 0; s < y.count(0); s++) {
                due(text + " rate(" + s + ", " + s + ")", y.rate(s, s), 0);
            }
        }
    }

    private static void reaches() {
        CHECK.says("A STATE REACHES another one, if HOPS lead there (itself too)");
        CrowdedLanes ring = Check.lane("ring 6;");
        due("empty", ring.of(0, 2), 1);
        due("full", ring.of(63, 2), 1);
        due("one grain, by five hops", ring.of(32, 2), 6);
        CrowdedLanes drain = Check.lane("open 6;in 0 0;");
        due("full reaches all", drain.of(63, 2), 64);
        due("empty reaches itself", drain.of(0, 2), 1);
        due("last place: itself and empty", drain.of(32, 2), 2);
        CHECK.says("PART of a STATE: all those that it REACHES and that REACH it");
        due("reaches all, but alone", drain.of(63, 3), 1);
        due("its least is itself", drain.of(63, 5), 63);
        due("each alone", drain.parts(0), 64);
    }

    private static void shut() {
        CHECK.says("A PART is SHUT, if no HOP leads out of it");
        CrowdedLanes drain = Check.lane("open 6;in 0 0;");
        due("one hop leads out", drain.of(32, 4), 0);
        due("no hop at all", drain.of(0, 4), 1);
        CrowdedLanes fill = Check.lane("open 6;out 0 0;");
        due("full is shut", fill.of(63, 4), 1);
        due("one less is not", fill.of(62, 4), 0);
        // only one of the states of the part has a hop that leads out of it
        CrowdedLanes leak = Check.lane("open 3;hop 1 1;in 0 0;");
        due("three states", leak.of(1, 3), 3);
        for (int s : new int[] {1, 2, 4}) {
            due("not shut, asked by " + s, leak.of(s, 4), 0);
        }
    }

    private static void eightStates() {
        CHECK.says("For PARTS of 8 STATES at most");
        CrowdedLanes eight = Check.lane("open 3;");
        due("8 of them", eight.of(0, 3), 8);
        due("rest", eight.rest(0, 1), 14);
        due("through", eight.through(0, 1), 14);
        due("even", eight.even(0), 0);
        // no lane has a shut part of 9
        CrowdedLanes ten = Check.lane("ring 5;");
        due("10 of them", ten.of(3, 3), 10);
        due("rest of 10", ten.rest(3, 0), SPENT);
        due("through of 10", ten.through(3, 0), -106);
        due("even of 10", ten.even(3), SPENT);
        due("5 beside them", ten.rest(1, 1), 5);
        CrowdedLanes all = Check.lane("open 6;");
        due("rest of 64", all.rest(63, 1), SPENT);
        CHECK.says("the WEIGHT of a STATE is the sum, over all trees, of the products of RATES");
        CrowdedLanes great = Check.lane("open 3;hop 9 9;in 9 9;out 9 9;");
        for (int s = 0; s < 8; s++) {
            int state = s;
            CHECK.fraction("the greatest rates, " + s, what -> great.rest(state, what), 1, 8);
        }
        CrowdedLanes alone = Check.lane("open 6;in 0 0;");
        CHECK.fraction("of one state", what -> alone.rest(0, what), 1, 1);
    }

    // ---- words

    private static void wordsHold() {
        CHECK.says("WORDS (OPEN, R 1, L, BACK IN, BACK OUT 0, IN a and OUT b above 0)");
        String[] without = {
            "ring 3;", "open 3;hop 0 0;", "open 3;hop 2 0;", "open 3;hop 9 0;", "open 3;hop 1 1;", "open 3;hop 1 9;",
            "open 3;in 0 0;", "open 3;in 1 1;", "open 3;in 1 9;", "open 3;out 0 0;", "open 3;out 1 1;", "open 3;out 1 9;",
        };
        for (String text : without) {
            CrowdedLanes x = Check.lane(text);
            due("worth: " + text, x.worth(0), STATE);
            due("all: " + text, x.all(0), STATE);
            due("flow: " + text, x.flow(0), STATE);
            due("full: " + text, x.full(0, 0), STATE);
            due("both: " + text, x.both(0, 1, 0), STATE);
        }
        for (int n = 1; n <= 6; n++) {
            CrowdedLanes least = Check.lane("open " + n + ";hop 1 0;in 1 0;out 1 0;");
            due("least rates, " + n, least.worth(0), 1);
            CrowdedLanes most = Check.lane("open " + n + ";in 9 0;out 9 0;");
            due("greatest rates, " + n, most.worth(0), Math.round(Math.pow(9, n)));
        }
    }

    private static void worths() {
        CHECK.says("if there is a GRAIN with a free PLACE right behind it (i and i + 1): take the first such i");
        CrowdedLanes x = Check.lane("open 2;in 2 0;out 3 0;");
        due("10: 6 times 3 and 2", x.worth(1), 30);
        CrowdedLanes three = Check.lane("open 3;in 2 0;out 3 0;");
        due("101: 6 times worth of 01 and 11", three.worth(5), 60);
        due("010: 6 times worth of 00 and 01", three.worth(2), 90);
        due("110: 6 times worth of 10 and 11", three.worth(3), 204);
        CHECK.says("Else (free PLACES first, e of them, then GRAINS, g): a to g times b to e");
        due("000", three.worth(0), 27);
        due("001", three.worth(4), 18);
        due("011", three.worth(6), 12);
        due("111", three.worth(7), 8);
        CrowdedLanes six = Check.lane("open 6;in 9 0;out 1 0;");
        due("111111", six.worth(63), 531441);
        due("000000", six.worth(0), 1);
        CHECK.says("Of no PLACES: 1");
        due("all of none", three.all(0), 1);
        due("all of none, greatest rates", Check.lane("open 1;in 9 0;out 9 0;").all(0), 1);
        CHECK.says("FLOW: a b times ALL of n - 1 by ALL of n");
        CrowdedLanes one = Check.lane("open 1;in 9 0;out 1 0;");
        CHECK.fraction("of one place", what -> one.flow(what), 9, 10);
        CrowdedLanes most = Check.lane("open 6;in 9 0;out 9 0;");
        CHECK.fraction("of six, greatest rates", what -> most.flow(what), 1956852, 5874397);
    }

    private static void rule() {
        CHECK.says("0 the left end (a below 5 and below b)");
        CrowdedLanes x = new CrowdedLanes();
        due("4 5", x.rule(4, 5), 0);
        due("4 10", x.rule(4, 10), 0);
        due("3 4", x.rule(3, 4), 0);
        due("1 2", x.rule(1, 2), 0);
        CHECK.says("1 the right one (b below 5 and below a)");
        due("5 4", x.rule(5, 4), 1);
        due("10 4", x.rule(10, 4), 1);
        due("4 3", x.rule(4, 3), 1);
        due("2 1", x.rule(2, 1), 1);
        CHECK.says("2 neither (both 5 or more)");
        due("5 5", x.rule(5, 5), 2);
        due("5 6", x.rule(5, 6), 2);
        due("6 5", x.rule(6, 5), 2);
        due("10 10", x.rule(10, 10), 2);
        CHECK.says("3 the line between (a is b, below 5)");
        for (int a = 1; a <= 4; a++) {
            due(a + " " + a, x.rule(a, a), 3);
        }
    }

    private static void shock() {
        CHECK.says("fillings by tenths l, r (0 to 10) left and right of it");
        CrowdedLanes x = new CrowdedLanes();
        CHECK.bounds("l", 0, 10, -100, l -> x.shock(l, 5, 0));
        CHECK.bounds("r", 0, 10, -100, r -> x.shock(5, r, 0));
        CHECK.fraction("0 and 5", what -> x.shock(0, 5, what), 1, 2);
        CHECK.fraction("5 and 10", what -> x.shock(5, 10, what), -1, 2);
        CHECK.says("NONE, if l is r");
        for (int l = 0; l <= 10; l++) {
            for (int what = 0; what < 3; what++) {
                due("alike " + l, x.shock(l, l, what), -104);
            }
        }
        CHECK.says("It stands, if l and r are 10 together");
        for (int l = 0; l <= 10; l++) {
            if (l != 5) {
                due(l + " and " + (10 - l), x.shock(l, 10 - l, 2), 1);
            }
        }
        due("9 together", x.shock(4, 5, 2), 0);
        due("11 together", x.shock(5, 6, 2), 0);
        due("0 and 9", x.shock(0, 9, 2), 0);
        due("10 and 1", x.shock(10, 1, 2), 0);
    }

    // ---- all at once, draws

    private static void allAtOnce() {
        CHECK.says("each GRAIN with a free PLACE right behind it (as all is) hops");
        for (int n = 2; n <= 6; n++) {
            CrowdedLanes x = Check.lane("ring " + n + ";hop 0 0;");
            int full = (1 << n) - 1;
            due("empty " + n, x.atOnce(0, 1), 0);
            due("full " + n, x.atOnce(full, 1), full);
            due("round " + n, x.atOnce(1 << n - 1, 1), 1);
            due("a hole goes to the left " + n, x.atOnce(full - 2, 1), full - 1);
            due("a hole goes round " + n, x.atOnce(full - 1, 1), full >> 1);
            due("all the way " + n, x.atOnce(1, n), 1);
        }
        CrowdedLanes six = Check.lane("ring 6;");
        due("what becomes free is not free yet", six.atOnce(3, 1), 5);
        due("what becomes free round is not free yet", six.atOnce(33, 1), 34);
        due("each second one", six.atOnce(21, 1), 42);
    }

    private static void rounds() {
        CHECK.says("ROUND: how many such steps until a STATE comes back that was there");
        for (int n = 2; n <= 6; n++) {
            CrowdedLanes x = Check.lane("ring " + n + ";");
            int full = (1 << n) - 1;
            due("empty " + n, x.round(0, 0), 1);
            due("full " + n, x.round(full, 0), 1);
            due("one grain " + n, x.round(1, 0), n);
            due("one hole " + n, x.round(full - 1, 0), n);
        }
        CrowdedLanes six = Check.lane("ring 6;");
        due("behind a tail", six.round(3, 0), 6);
        due("of two steps", six.round(7, 0), 2);
        CHECK.says("TAIL: how many steps until the first one that comes back");
        due("none: empty", six.round(0, 1), 0);
        due("none: full", six.round(63, 1), 0);
        due("none: it comes back itself", six.round(21, 1), 0);
        due("one", six.round(3, 1), 1);
        due("two", six.round(7, 1), 2);
        CHECK.says("HOPS of a ROUND");
        due("empty", six.round(0, 2), 0);
        due("full", six.round(63, 2), 0);
        due("those of the tail are not of it", six.round(7, 2), 6);
        due("one hole", six.round(62, 2), 6);
    }

    private static void draws() {
        CHECK.says("a seed (any int) is led on: seed times 1103515245 and 12345 (as ints)");
        // 2147483647 leads on to 1043980748, whose bits 16 to 30 are 15929; so does -1, but for bit 31
        for (int seed : new int[] {HIGH, -1}) {
            due("place 1 of 4", Check.lane("ring 4;").run(2, seed, 1, 0), 4);
            due("place 5 of 6", Check.lane("ring 6;").run(32, seed, 1, 0), 1);
            due("place 4 of 5", Check.lane("ring 5;").run(16, seed, 1, 0), 1);
            due("place 2 of 3", Check.lane("ring 3;").run(4, seed, 1, 0), 1);
        }
        CHECK.says("the draw of k: its bits 16 to 30 modulo k");
        // the least int leads on to bit 31 and 12345: the draw is 0
        for (int seed : new int[] {LOW, 0}) {
            for (int n = 2; n <= 6; n++) {
                CrowdedLanes x = Check.lane("ring " + n + ";");
                due("place 0 of " + n, x.run(1, seed, 1, 0), 2);
                for (int i = 1; i < n; i++) {
                    due("not place " + i + " of " + n, x.run(1 << i, seed, 1, 1), 0);
                }
            }
        }
        CHECK.says("A RUN of m TICKS (0 to 200) of a STATE of the RING");
        CrowdedLanes x = Check.lane("ring 6;");
        CHECK.bounds("m", 0, 200, BAD, m -> x.run(11, 1, m, 0));
        due("no tick", x.run(11, 1, 0, 0), 11);
        due("no tick, no hop", x.run(11, 1, 0, 1), 0);
        due("200 ticks", x.run(11, 1, 200, 0), 38);
        due("200 ticks, hops", x.run(11, 1, 200, 1), 58);
        CHECK.says("if there is a GRAIN at i and none at i + 1, it hops (RATES do not matter)");
        CrowdedLanes still = Check.lane("ring 6;hop 0 9;");
        due("a ring without R", still.run(11, 1, 200, 0), 38);
        due("empty", still.run(0, 1, 200, 1), 0);
        due("full", still.run(63, 1, 200, 1), 0);
        due("a grain ahead", still.run(3, 0, 1, 1), 0);
        due("a grain ahead round", still.run(33, HIGH, 1, 1), 0);
        due("round", still.run(32, HIGH, 1, 0), 1);
    }

    private static void coupled() {
        CHECK.says("COUPLED: two STATES by the same draws. UNLIKE: PLACES in which both differ");
        CrowdedLanes x = Check.lane("ring 6;");
        for (int m = 0; m <= 200; m += 20) {
            int both = x.run(11, 7, m, 0) ^ x.run(13, 7, m, 0);
            due("behind " + m, x.coupled(11, 13, 7, m, 0), Integer.bitCount(both));
        }
        due("none", x.coupled(9, 9, 7, 200, 0), 0);
        due("all", x.coupled(0, 63, 7, 200, 0), 6);
        due("all at first", x.coupled(21, 42, 7, 0, 0), 6);
    }

    // ---- rims, walkers

    private static void rims() {
        CHECK.says("of 8 PLACES on a line (bits, beyond them nothing)");
        CrowdedLanes x = Check.lane("open 1;");
        due("over the last place is no way", x.cells(128, 1), NONE);
        due("no orders over the last place", x.orders(128, 1), 0);
        due("full stays", x.cells(255, 255), 0);
        due("full stays in one order", x.orders(255, 255), 1);
        due("empty stays", x.cells(0, 0), 0);
        due("empty stays in one order", x.orders(0, 0), 1);
        due("nothing comes in", x.cells(0, 1), NONE);
        due("nothing goes out", x.cells(128, 0), NONE);
        due("nothing goes out, orders", x.orders(128, 0), 0);
        due("from end to end", x.cells(1, 128), 7);
        due("seven over one place", x.cells(127, 254), 7);
        due("seven over one place in one order", x.orders(127, 254), 1);
        due("the most cells", x.cells(15, 240), 16);
        due("the most orders", x.orders(15, 240), 24024);
    }

    private static void walkers() {
        CHECK.says("WALKERS (1 to 4) on PLACES 0 to 11 (bits)");
        CrowdedLanes x = new CrowdedLanes();
        due("none", x.ways(0, 0, 0), BAD);
        int[] set = {1, 3, 7, 15};
        for (int walkers : set) {
            due("at the left end", x.ways(walkers, walkers, 0), 1);
            due("at the right end", x.ways(walkers << 12 - Integer.bitCount(walkers), walkers, 0), 0);
            due("over the right end", x.ways(walkers << 13 - Integer.bitCount(walkers), walkers, 0), BAD);
        }
        due("five", x.ways(31, 31, 0), BAD);
        due("twelve", x.ways(4095, 4095, 0), BAD);
        CHECK.says("in each of m steps (0 to 8)");
        CHECK.bounds("m", 0, 8, BAD, m -> x.ways(1, 1, m));
        due("8 steps in the midst", x.ways(64, 64, 8), 70);
        due("8 steps to the right", x.ways(1, 256, 8), 1);
        due("8 steps do not lead to 9", x.ways(1, 512, 8), 0);
        CHECK.says("each goes one PLACE to the left or to the right, all at once, never beyond");
        due("from 0 to 1", x.ways(1, 2, 1), 1);
        due("from 11 to 10", x.ways(2048, 1024, 1), 1);
        due("not round to the left", x.ways(1, 2048, 1), 0);
        due("not round to the right", x.ways(2048, 1, 1), 0);
        due("none stays", x.ways(4, 4, 1), 0);
        due("8 steps at the left end", x.ways(1, 1, 8), 14);
        due("8 steps at the right end", x.ways(2048, 2048, 8), 14);
        due("one goes and one stays", x.ways(0b101, 0b1001, 1), 0);
        CHECK.says("no two in one PLACE");
        due("both would come to 1", x.ways(5, 2, 1), BAD);
        due("0 and 2 in two steps: only both to the right", x.ways(5, 5, 2), 1);
        due("side by side they change", x.ways(3, 3, 1), 1);
        due("one passes the other, which goes and comes back", x.ways(0b1100, 0b11000, 2), 2);
        due("one passes the other to the left", x.ways(0b11000, 0b1100, 2), 2);
        due("four at the left end", x.ways(0b1010101, 0b1010101, 2), 1);
    }

    // ---- two kinds, sheets

    private static int word(int... kinds) {
        int word = 0;
        for (int i = kinds.length - 1; i >= 0; i--) {
            word = 3 * word + kinds[i];
        }
        return word;
    }

    private static void twoKinds() {
        CHECK.says("PLACES i and i + 1 (round) change, if i has a first kind and i + 1 has none such, or i a second kind and i + 1 is free");
        CrowdedLanes x = Check.lane("ring 3;");
        due("first over free", x.word(word(0, 1, 0), 0), 1);
        due("first over second", x.word(word(2, 1, 2), 0), 1);
        due("second over free", x.word(word(0, 2, 0), 0), 1);
        due("first over free, round", x.word(word(0, 0, 1), 0), 1);
        due("first over second, round", x.word(word(2, 2, 1), 0), 1);
        due("second over free, round", x.word(word(0, 0, 2), 0), 1);
        due("second not over first, nor first over first", x.word(word(1, 1, 2), 0), 1);
        due("all free", x.word(0, 0), 0);
        due("all first", x.word(word(1, 1, 1), 0), 0);
        due("all second", x.word(word(2, 2, 2), 0), 0);
        CrowdedLanes two = Check.lane("ring 2;");
        due("two places: first and free", two.word(word(1, 0), 0), 1);
        due("two places: first and second", two.word(word(2, 1), 0), 1);
        CrowdedLanes one = Check.lane("open 1;");
        for (int w = 0; w < 3; w++) {
            due("one place beside itself: " + w, one.word(w, 0), 0);
            due("one place, before: " + w, one.word(w, 1), 0);
        }
    }

    private static void views() {
        CHECK.says("the first of B that is not taken, from its PLACE on to the left, round");
        CrowdedLanes x = Check.lane("ring 6;");
        due("its own place", x.view(8, 63), word(2, 2, 2, 1, 2, 2));
        due("to the left", x.view(32, 3), word(2, 1, 0, 0, 0, 0));
        due("round", x.view(1, 48), word(0, 0, 0, 0, 2, 1));
        due("round as far as may be", x.view(1, 2), word(0, 1, 0, 0, 0, 0));
        due("one that is taken is passed", x.view(6, 35), word(1, 1, 0, 0, 0, 2));
        due("one that is taken is passed, round", x.view(3, 35), word(1, 1, 0, 0, 0, 2));
        due("taken, so round", x.view(3, 49), word(1, 0, 0, 0, 2, 1));
        CHECK.says("B has at least as many");
        due("as many", x.view(7, 56), word(0, 0, 0, 1, 1, 1));
        due("none and none", x.view(0, 0), 0);
        due("none and all", x.view(0, 63), 728);
        due("all and all", x.view(63, 63), 364);
        due("one more", x.view(7, 48), BAD);
        due("all and one less", x.view(63, 62), BAD);
        due("one and none", x.view(1, 0), BAD);
        CHECK.says("SEEN: how many pairs of rows of as many have it as VIEW");
        due("nothing", x.seen(0), 1);
        due("all first", x.seen(364), 1);
        due("all second", x.seen(728), 1);
        due("one first, five free", x.seen(word(0, 0, 0, 1, 0, 0)), 6);
        due("one second, five free", x.seen(word(0, 0, 0, 2, 0, 0)), 1);
        due("five first, one free: 6 rows of five", x.seen(word(1, 1, 1, 1, 1, 0)), 6);
        due("one first, five second: its own place", x.seen(word(2, 2, 2, 1, 2, 2)), 1);
    }

    private static void sheets() {
        CHECK.says("SHEETS 0 to 3 are rows with 0 to 64 CELLS, or nothing (at first)");
        CrowdedLanes x = new CrowdedLanes();
        for (int k = 0; k < 4; k++) {
            due("nothing in " + k, x.lay(k, 0, 1), -11);
            due("nothing to judge in " + k, x.judge(0, k, 0, 0), -11);
        }
        for (int k = 0; k < 4; k++) {
            due("no cell in " + k, x.sheet(k, k % 3, 0), 1);
            due("no cell 0 in " + k, x.lay(k, 0, 1), -12);
            due("64 cells in " + k, x.sheet(k, k % 3, 64), 1);
            due("cell 63 in " + k, x.lay(k, 63, 1), 1);
            due("no cell 64 in " + k, x.lay(k, 64, 1), -12);
        }
        CHECK.says("1 NULL (nothing), 2 INDEX, 3 CAST (another lane), 4 SIZE (below 0)");
        CrowdedLanes y = new CrowdedLanes();
        due("NULL", y.judge(0, 0, 0, 0), -11);
        y.sheet(0, 0, 1);
        due("INDEX", y.judge(0, 0, 0, 1), -12);
        due("CAST", y.judge(0, 0, 1, 0), -13);
        due("SIZE", y.sheet(0, 0, -1), -14);
    }
}
