import java.util.Map;
import java.util.Random;

/** The class and the oracle asked the same: over whole ranges, and by long runs of calls in any order. */
public final class OracleTest {
    private static final Check CHECK = new Check("OracleTest");
    private static final int CALLS = 512;
    private static final int RUNS = 400;

    public static void main(String[] args) {
        texts();
        lanes();
        rounds();
        rims();
        walkers();
        kinds();
        for (int i = 0; i < RUNS && !CHECK.failed(); i++) {
            anyRun(new Random(i));
        }
        CHECK.close();
    }

    private static void tell(CrowdedLanes x, Oracle o, String text) {
        for (long v : Check.longs(text)) {
            CHECK.due("feed of " + text, x.feed(v), o.feed(v));
        }
        CHECK.due("end of " + text, x.end(text.length()), o.end(text.length()));
        CHECK.due("text of " + text, x.text(), o.text());
        CHECK.due("fault of " + text, x.fault(), o.fault());
        for (int i = -1; i < 9; i++) {
            CHECK.due("told " + i + " of " + text, x.told(i), o.told(i));
        }
    }

    // ---- texts

    private static String anyOf(Random any, String... rows) {
        return rows[any.nextInt(rows.length)];
    }

    private static String anyNumber(Random any) {
        return anyOf(any, "0", "1", "2", "3", "4", "5", "6", "7", "9", "05", "00", "10", "16", "99", "004", "123");
    }

    private static String likelyLine(Random any) {
        String gap = anyOf(any, " ", " ", "  ");
        String name = anyOf(any, "ring", "open", "hop", "in", "out");
        String first = name.length() == 4 ? "" + (1 + any.nextInt(6)) : "" + any.nextInt(10);
        String more = name.length() == 4 ? "" : " " + any.nextInt(10);
        return name + gap + first + more + anyOf(any, ";", " ;", "; ");
    }

    private static String wildPiece(Random any) {
        return anyOf(any, " ", " ", ";", anyNumber(any), anyNumber(any), "ring", "open", "hop", "in", "out", "i", "rin",
                "ringo", "aring", "hops", "\t", "\n", "A", "-", "\u00e9", "\0", "" + (char) any.nextInt(256));
    }

    private static String anyText(Random any) {
        StringBuilder text = new StringBuilder();
        int pieces = any.nextInt(7);
        for (int i = 0; i < pieces; i++) {
            text.append(any.nextInt(5) == 0 ? wildPiece(any) : likelyLine(any));
        }
        if (any.nextInt(3) == 0 && text.length() > 0) {
            int at = any.nextInt(text.length());
            text.replace(at, Math.min(text.length(), at + any.nextInt(3)), wildPiece(any));
        }
        text.setLength(Math.min(text.length(), 120));
        return text.toString();
    }

    private static void texts() {
        Random any = new Random(7);
        for (int i = 0; i < 400; i++) {
            CrowdedLanes x = new CrowdedLanes();
            Oracle o = new Oracle();
            for (int k = 0; k < 20; k++) {
                tell(x, o, anyText(any));
            }
        }
    }

    // ---- lanes

    private static void lanes() {
        Random any = new Random(11);
        for (int i = 0; i < 160; i++) {
            String kind = i % 2 == 0 ? "ring " + (2 + any.nextInt(5)) : "open " + (1 + any.nextInt(5));
            lane(kind + ";" + rates(any, "hop") + rates(any, "in") + rates(any, "out"));
        }
        // words: all ends of the shortest lanes, and some of the longest
        for (int a = 0; a <= 9; a++) {
            for (int b = 0; b <= 9; b += 1 + a % 3) {
                lane("open 1;in " + a + " 0;out " + b + " 0;");
                lane("open 2;in " + a + " 0;out " + b + " 0;");
                lane("open 3;in " + a + " 0;out " + b + " 0;");
            }
        }
        lane("open 6;in 9 0;out 9 0;");
        lane("open 6;in 1 0;out 9 0;");
        lane("open 5;in 7 0;out 1 0;");
        // the greatest rates that trees are made from
        lane("open 3;hop 9 9;in 9 9;out 9 9;");
        lane("open 3;hop 9 8;in 9 7;out 9 8;");
        lane("open 3;hop 8 9;in 9 9;out 7 9;");
        lane("open 3;hop 9 0;in 9 0;out 9 0;");
        lane("ring 2;hop 9 9;");
        lane("open 1;in 9 9;out 9 9;");
    }

    private static String rates(Random any, String name) {
        int first = any.nextInt(3) == 0 ? 0 : any.nextInt(10);
        int second = any.nextInt(2) == 0 ? 0 : any.nextInt(10);
        return name + " " + first + " " + second + ";";
    }

    private static void lane(String text) {
        CrowdedLanes x = new CrowdedLanes();
        Oracle o = new Oracle();
        tell(x, o, text);
        int states = o.count(0);
        for (int what = -1; what <= 3; what++) {
            CHECK.due(text + " parts " + what, x.parts(what), o.parts(what));
            CHECK.due(text + " flow " + what, x.flow(what), o.flow(what));
            for (int i = -1; i <= 6; i++) {
                CHECK.due(text + " full " + i + " " + what, x.full(i, what), o.full(i, what));
                for (int j = -1; j <= 6; j++) {
                    CHECK.due(text + " both " + i + " " + j + " " + what, x.both(i, j, what), o.both(i, j, what));
                }
            }
        }
        for (int m = -1; m <= 7; m++) {
            CHECK.due(text + " all " + m, x.all(m), o.all(m));
        }
        for (int s = -1; s <= states; s++) {
            for (int t = -1; t <= states; t++) {
                CHECK.due(text + " rate " + s + " " + t, x.rate(s, t), o.rate(s, t));
            }
            for (int what = -1; what <= 7; what++) {
                CHECK.due(text + " of " + s + " " + what, x.of(s, what), o.of(s, what));
            }
            for (int what = -1; what <= 2; what++) {
                CHECK.due(text + " rest " + s + " " + what, x.rest(s, what), o.rest(s, what));
                CHECK.due(text + " through " + s + " " + what, x.through(s, what), o.through(s, what));
            }
            CHECK.due(text + " even " + s, x.even(s), o.even(s));
            CHECK.due(text + " worth " + s, x.worth(s), o.worth(s));
        }
        judged(text, x, o, states);
    }

    /** Shares at rest, as the words or the trees tell them, stand; with one of them changed they mostly do not. */
    private static void judged(String text, CrowdedLanes x, Oracle o, int states) {
        for (int s = 0; s < states; s++) {
            int size = o.of(s, 3);
            x.sheet(0, 2, 64);
            o.sheet(0, 2, 64);
            int i = 0;
            for (int t = 0; t < states; t++) {
                if (o.of(t, 5) == o.of(s, 5)) {
                    long share = o.rest(t, 0) > 0 ? wholeShare(o, t) : 1;
                    x.lay(0, i, (int) share);
                    o.lay(0, i, (int) share);
                    i++;
                }
            }
            CHECK.due(text + " judge " + s, x.judge(s, 0, 2, 0), o.judge(s, 0, 2, 0));
            x.lay(0, size / 2, 3);
            o.lay(0, size / 2, 3);
            CHECK.due(text + " judge anew " + s, x.judge(s, 0, 2, 0), o.judge(s, 0, 2, 0));
        }
    }

    /** The share of a state by the common denominator of its part, as far as an int holds it. */
    private static long wholeShare(Oracle o, int t) {
        long common = 1;
        for (int s = 0; s < o.count(0); s++) {
            if (o.of(s, 5) == o.of(t, 5)) {
                long under = o.rest(s, 1);
                long a = common;
                long b = under;
                while (b != 0) {
                    long c = a % b;
                    a = b;
                    b = c;
                }
                common = common / a * under;
            }
        }
        return common < Integer.MAX_VALUE ? o.rest(t, 0) * (common / o.rest(t, 1)) : 1;
    }

    // ---- the rest of the ranges

    private static void rounds() {
        Random any = new Random(3);
        for (int n = 2; n <= 6; n++) {
            CrowdedLanes x = new CrowdedLanes();
            Oracle o = new Oracle();
            tell(x, o, "ring " + n + ";");
            for (int s = -1; s <= 1 << n; s++) {
                for (int what = -1; what <= 3; what++) {
                    CHECK.due("round " + s, x.round(s, what), o.round(s, what));
                }
                for (int m = 0; m <= 14; m++) {
                    CHECK.due("atOnce " + s + " " + m, x.atOnce(s, m), o.atOnce(s, m));
                }
                for (int k = 0; k < 10; k++) {
                    int seed = any.nextInt();
                    int m = any.nextInt(201);
                    int t = any.nextInt(1 << n);
                    for (int what = -1; what <= 3; what++) {
                        CHECK.due("run", x.run(s, seed, m, what), o.run(s, seed, m, what));
                        CHECK.due("coupled", x.coupled(s, t, seed, m, what), o.coupled(s, t, seed, m, what));
                        CHECK.due("coupled", x.coupled(t, s, seed, m / 8, what), o.coupled(t, s, seed, m / 8, what));
                    }
                }
            }
        }
        CrowdedLanes x = new CrowdedLanes();
        Oracle o = new Oracle();
        for (int a = -1; a <= 12; a++) {
            for (int b = -1; b <= 12; b++) {
                CHECK.due("rule " + a + " " + b, x.rule(a, b), o.rule(a, b));
                for (int what = -1; what <= 3; what++) {
                    CHECK.due("shock " + a + " " + b + " " + what, x.shock(a, b, what), o.shock(a, b, what));
                }
            }
        }
    }

    private static void rims() {
        CrowdedLanes x = new CrowdedLanes();
        Oracle o = new Oracle();
        for (int s = -1; s <= 256; s++) {
            for (int t = -1; t <= 256; t++) {
                CHECK.due("cells " + s + " " + t, x.cells(s, t), o.cells(s, t));
                CHECK.due("orders " + s + " " + t, x.orders(s, t), o.orders(s, t));
            }
        }
    }

    private static void walkers() {
        CrowdedLanes x = new CrowdedLanes();
        for (int from = 1; from < 4096; from++) {
            if (Integer.bitCount(from) > 4) {
                continue;
            }
            for (int m = 0; m <= 8; m++) {
                walkersFrom(x, from, m);
            }
        }
    }

    private static void walkersFrom(CrowdedLanes x, int from, int m) {
        Map<Integer, Long> due = Oracle.waysFrom(from, m);
        for (int to = 1; to < 4096; to++) {
            if (Integer.bitCount(to) == Integer.bitCount(from)) {
                CHECK.due("ways", x.ways(from, to, m), due.getOrDefault(to, 0L));
            }
        }
    }

    private static void kinds() {
        for (int n = 1; n <= 6; n++) {
            CrowdedLanes x = new CrowdedLanes();
            Oracle o = new Oracle();
            tell(x, o, (n % 2 == 1 ? "open " : "ring ") + n + ";");
            for (int a = -1; a <= 1 << n; a++) {
                for (int b = -1; b <= 1 << n; b++) {
                    CHECK.due("view " + a + " " + b, x.view(a, b), o.view(a, b));
                }
            }
            for (int word = -1; word <= Math.pow(3, n); word++) {
                CHECK.due("seen " + word, x.seen(word), o.seen(word));
                for (int what = -1; what <= 17; what++) {
                    if (what != 1 || n < 6 || word % 7 == 0) {
                        CHECK.due("word " + word + " " + what, x.word(word, what), o.word(word, what));
                    }
                }
            }
        }
    }

    // ---- any calls in any order

    private static int some(Random any, int most) {
        switch (any.nextInt(25)) {
            case 0: return any.nextInt();
            case 1: return -1;
            case 2: return most + 1;
            case 3: return Integer.MIN_VALUE;
            case 4: return Integer.MAX_VALUE;
            default: return any.nextInt(most + 1);
        }
    }

    private static void anyRun(Random any) {
        CrowdedLanes x = new CrowdedLanes();
        Oracle o = new Oracle();
        for (int i = 0; i < CALLS;) {
            if (any.nextInt(30) == 0) {
                String text = anyText(any);
                for (long v : Check.longs(text)) {
                    CHECK.due("feed", x.feed(v), o.feed(v));
                    i++;
                }
                int n = any.nextInt(6) == 0 ? some(any, 130) : text.length();
                CHECK.due("end", x.end(n), o.end(n));
                if (any.nextInt(8) != 0) {
                    CHECK.due("text", x.text(), o.text());
                }
                i += 2;
            } else {
                anyCall(x, o, any);
                i++;
            }
        }
    }

    private static void anyCall(CrowdedLanes x, Oracle o, Random any) {
        int top = o.count(0) - 1;
        int s = some(any, top);
        int t = some(any, top);
        int what = some(any, 3);
        int seed = any.nextInt();
        int word = some(any, (int) Math.pow(3, o.told(0)) - 1);
        int k = some(any, 3);
        int lane = some(any, 2);
        int m;
        switch (any.nextInt(34)) {
            case 0: CHECK.due("fault", x.fault(), o.fault()); break;
            case 1: what = some(any, 7); CHECK.due("told", x.told(what), o.told(what)); break;
            case 2: CHECK.due("rate", x.rate(s, t), o.rate(s, t)); break;
            case 3: what = some(any, 6); CHECK.due("of", x.of(s, what), o.of(s, what)); break;
            case 4: CHECK.due("parts", x.parts(what), o.parts(what)); break;
            case 5: CHECK.due("rest", x.rest(s, what), o.rest(s, what)); break;
            case 6: CHECK.due("through", x.through(s, what), o.through(s, what)); break;
            case 7: CHECK.due("even", x.even(s), o.even(s)); break;
            case 8: CHECK.due("worth", x.worth(s), o.worth(s)); break;
            case 9: m = some(any, 6); CHECK.due("all", x.all(m), o.all(m)); break;
            case 10: CHECK.due("flow", x.flow(what), o.flow(what)); break;
            case 11: m = some(any, 5); CHECK.due("full", x.full(m, what), o.full(m, what)); break;
            case 12: CHECK.due("both", x.both(k, lane, what), o.both(k, lane, what)); break;
            case 13: CHECK.due("rule", x.rule(s, t), o.rule(s, t)); break;
            case 14: CHECK.due("shock", x.shock(s, t, what), o.shock(s, t, what)); break;
            case 15: m = some(any, 1000); CHECK.due("atOnce", x.atOnce(s, m), o.atOnce(s, m)); break;
            case 16: CHECK.due("round", x.round(s, what), o.round(s, what)); break;
            case 17: m = some(any, 200); CHECK.due("run", x.run(s, seed, m, what), o.run(s, seed, m, what)); break;
            case 18:
                m = some(any, 200);
                CHECK.due("coupled", x.coupled(s, t, seed, m, what), o.coupled(s, t, seed, m, what));
                break;
            case 19: m = some(any, 255); CHECK.due("cells", x.cells(s, m), o.cells(s, m)); break;
            case 20: m = some(any, 255); CHECK.due("orders", x.orders(s, m), o.orders(s, m)); break;
            case 21:
                m = some(any, 8);
                s = some(any, 4095);
                t = any.nextInt(3) == 0 ? some(any, 4095) : s << any.nextInt(3);
                CHECK.due("ways", x.ways(s, t, m), o.ways(s, t, m));
                break;
            case 22: CHECK.due("view", x.view(s, t), o.view(s, t)); break;
            case 23: CHECK.due("seen", x.seen(word), o.seen(word)); break;
            case 24: what = some(any, 16); CHECK.due("word", x.word(word, what), o.word(word, what)); break;
            case 25: m = some(any, 64); CHECK.due("sheet", x.sheet(k, lane, m), o.sheet(k, lane, m)); break;
            case 26: case 27: case 28:
                m = some(any, 20);
                int v = any.nextInt(4) == 0 ? any.nextInt() : any.nextInt(3);
                CHECK.due("lay", x.lay(k, m, v), o.lay(k, m, v));
                break;
            case 29: case 30: case 31:
                m = any.nextInt(3) == 0 ? some(any, 64) : 0;
                CHECK.due("judge", x.judge(s, k, lane, m), o.judge(s, k, lane, m));
                break;
            case 32: CHECK.due("count", x.count(what), o.count(what)); break;
            default: long fed = any.nextLong(); CHECK.due("feed", x.feed(fed), o.feed(fed)); break;
        }
    }
}
