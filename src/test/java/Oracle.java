import java.math.BigInteger;
import java.util.ArrayDeque;
import java.util.ArrayList;
import java.util.Arrays;
import java.util.Deque;
import java.util.HashMap;
import java.util.HashSet;
import java.util.List;
import java.util.Map;
import java.util.Set;
import java.util.TreeMap;
import java.util.TreeSet;
import java.util.regex.Matcher;
import java.util.regex.Pattern;

/**
 * The document once more, said as plainly as the library allows and by other ways than the class goes:
 * trees and walks are counted one by one, parts are searched, pairs of rows are all tried.
 */
final class Oracle {
    private static final int BAD = -1, STATE = -2, FULL = -3, NONE = -4, SPENT = -6;

    private String tape = "";
    private int fault;
    private int[] told = {4, 0, 1, 0, 1, 0, 1, 0};
    private final Object[] sheets = new Object[4];
    private final Map<Integer, Map<Integer, BigInteger>> weights = new HashMap<>();
    private final Map<String, BigInteger> worths = new HashMap<>();
    private Map<String, Integer> views;

    private static boolean in(long v, long least, long most) {
        return least <= v && v <= most;
    }

    // ---- tape and text

    int feed(long v) {
        if (tape.length() + 8 > 120) {
            return FULL;
        }
        StringBuilder more = new StringBuilder(tape);
        for (int i = 7; i >= 0; i--) {
            more.append((char) (v >>> 8 * i & 255));
        }
        tape = more.toString();
        return tape.length();
    }

    int end(int n) {
        if (!in(n, 0, tape.length())) {
            return BAD;
        }
        int had = tape.length();
        tape = tape.substring(0, n);
        return had;
    }

    private static final class Faulty extends Exception {
        private static final long serialVersionUID = 1;
        final int place;
        final int fault;

        Faulty(int place, int fault) {
            this.place = place;
            this.fault = fault;
        }
    }

    private static final Pattern TOKEN = Pattern.compile("\\G *(?:([a-z]+)|([0-9]+)|(;))", Pattern.DOTALL);

    /** The tokens are taken one by one; a null token is the end. */
    private final class Tokens {
        int at;
        int place;

        String next() throws Faulty {
            Matcher m = TOKEN.matcher(tape);
            if (!m.find(at)) {
                place = at;
                while (place < tape.length() && tape.charAt(place) == ' ') {
                    place++;
                }
                if (place == tape.length()) {
                    return null;
                }
                throw new Faulty(place, 1);
            }
            int group = m.group(1) != null ? 1 : m.group(2) != null ? 2 : 3;
            place = m.start(group);
            at = m.end();
            String token = m.group(group);
            if (group == 1 && !List.of("ring", "open", "hop", "in", "out").contains(token)) {
                throw new Faulty(place, 1);
            }
            if (group == 2 && token.length() > 2) {
                throw new Faulty(place, 1);
            }
            return token;
        }

        int number(int least, int most) throws Faulty {
            String token = next();
            if (token == null || !Character.isDigit(token.charAt(0))) {
                throw new Faulty(place, 2);
            }
            int v = Integer.parseInt(token);
            if (!in(v, least, most)) {
                throw new Faulty(place, 3);
            }
            return v;
        }
    }

    int text() {
        try {
            int[] fresh = {4, 0, 1, 0, 1, 0, 1, 0};
            int lines = readLines(fresh);
            told = fresh;
            fault = 0;
            weights.clear();
            worths.clear();
            views = null;
            return lines;
        } catch (Faulty f) {
            fault = f.fault;
            return -10 - f.place;
        } finally {
            tape = "";
        }
    }

    private int readLines(int[] fresh) throws Faulty {
        Tokens tokens = new Tokens();
        Set<String> names = new HashSet<>();
        int lines = 0;
        for (String name = tokens.next(); name != null; name = tokens.next()) {
            if (!Character.isLetter(name.charAt(0))) {
                throw new Faulty(tokens.place, 2);
            }
            if (!names.add(name.equals("open") ? "ring" : name)) {
                throw new Faulty(tokens.place, 4);
            }
            if (name.equals("ring")) {
                fresh[0] = tokens.number(2, 6);
                fresh[1] = 0;
            } else if (name.equals("open")) {
                fresh[0] = tokens.number(1, 6);
                fresh[1] = 1;
            } else {
                int first = name.equals("hop") ? 2 : name.equals("in") ? 4 : 6;
                fresh[first] = tokens.number(0, 9);
                fresh[first + 1] = tokens.number(0, 9);
            }
            if (!";".equals(tokens.next())) {
                throw new Faulty(tokens.place, 2);
            }
            lines++;
        }
        return lines;
    }

    int fault() {
        return fault;
    }

    int told(int what) {
        return in(what, 0, 7) ? told[what] : BAD;
    }

    // ---- the lane

    private int n() {
        return told[0];
    }

    private boolean open() {
        return told[1] == 1;
    }

    private boolean isState(int s) {
        return in(s, 0, (1 << n()) - 1);
    }

    private boolean[] places(int s, int n) {
        boolean[] row = new boolean[n];
        for (int i = 0; i < n; i++) {
            row[i] = (s >> i & 1) == 1;
        }
        return row;
    }

    private static int number(boolean[] row) {
        int s = 0;
        for (int i = 0; i < row.length; i++) {
            s += row[i] ? 1 << i : 0;
        }
        return s;
    }

    private static void add(Map<Integer, Integer> rates, int target, int rate) {
        if (rate > 0) {
            rates.merge(target, rate, Integer::sum);
        }
    }

    private void move(Map<Integer, Integer> rates, int s, int i, int step, int rate) {
        int j = i + step;
        if (open() && !in(j, 0, n() - 1)) {
            return;
        }
        j = Math.floorMod(j, n());
        boolean[] row = places(s, n());
        if (row[i] && !row[j]) {
            row[i] = false;
            row[j] = true;
            add(rates, number(row), rate);
        }
    }

    private void turn(Map<Integer, Integer> rates, int s, int i, boolean comes, int rate) {
        boolean[] row = places(s, n());
        if (row[i] != comes) {
            row[i] = comes;
            add(rates, number(row), rate);
        }
    }

    /** The rates to all states that hops lead to. */
    private Map<Integer, Integer> rates(int s) {
        Map<Integer, Integer> rates = new TreeMap<>();
        for (int i = 0; i < n(); i++) {
            move(rates, s, i, 1, told[2]);
            move(rates, s, i, -1, told[3]);
        }
        if (open()) {
            turn(rates, s, 0, true, told[4]);
            turn(rates, s, n() - 1, true, told[5]);
            turn(rates, s, n() - 1, false, told[6]);
            turn(rates, s, 0, false, told[7]);
        }
        return rates;
    }

    int rate(int s, int t) {
        return isState(s) && isState(t) ? rates(s).getOrDefault(t, 0) : BAD;
    }

    private TreeSet<Integer> reached(int s) {
        TreeSet<Integer> found = new TreeSet<>(Set.of(s));
        Deque<Integer> waiting = new ArrayDeque<>(found);
        while (!waiting.isEmpty()) {
            for (int t : rates(waiting.pop()).keySet()) {
                if (found.add(t)) {
                    waiting.push(t);
                }
            }
        }
        return found;
    }

    private final Map<String, TreeSet<Integer>> partsFound = new HashMap<>();

    private TreeSet<Integer> part(int s) {
        return partsFound.computeIfAbsent(Arrays.toString(told) + s, k -> {
            TreeSet<Integer> part = reached(s);
            part.removeIf(t -> !reached(t).contains(s));
            return part;
        });
    }

    private boolean shut(int s) {
        for (int x : part(s)) {
            if (!part(s).containsAll(rates(x).keySet())) {
                return false;
            }
        }
        return true;
    }

    int of(int s, int what) {
        if (!isState(s)) {
            return BAD;
        }
        return switch (what) {
            case 0 -> rates(s).values().stream().mapToInt(r -> r).sum();
            case 1 -> rates(s).size();
            case 2 -> reached(s).size();
            case 3 -> part(s).size();
            case 4 -> shut(s) ? 1 : 0;
            case 5 -> part(s).first();
            case 6 -> Integer.bitCount(s);
            default -> BAD;
        };
    }

    int parts(int what) {
        if (!in(what, 0, 2)) {
            return BAD;
        }
        Set<Set<Integer>> all = new HashSet<>();
        Set<Set<Integer>> shut = new HashSet<>();
        int greatest = 0;
        for (int s = 0; s < 1 << n(); s++) {
            all.add(part(s));
            if (shut(s)) {
                shut.add(part(s));
                greatest = Math.max(greatest, part(s).size());
            }
        }
        return what == 0 ? all.size() : what == 1 ? shut.size() : greatest;
    }

    // ---- at rest

    /** Each other state picks one hop; what leads all of them to the root is a tree. */
    private BigInteger trees(List<Integer> others, int at, int root, Map<Integer, Integer> picked, BigInteger product) {
        if (at == others.size()) {
            for (int x : others) {
                int y = x;
                for (int i = 0; i <= others.size() && y != root; i++) {
                    y = picked.get(y);
                }
                if (y != root) {
                    return BigInteger.ZERO;
                }
            }
            return product;
        }
        BigInteger sum = BigInteger.ZERO;
        for (Map.Entry<Integer, Integer> hop : rates(others.get(at)).entrySet()) {
            picked.put(others.get(at), hop.getKey());
            sum = sum.add(trees(others, at + 1, root, picked, product.multiply(BigInteger.valueOf(hop.getValue()))));
        }
        return sum;
    }

    private Map<Integer, BigInteger> weights(int s) {
        return weights.computeIfAbsent(part(s).first(), k -> {
            Map<Integer, BigInteger> found = new TreeMap<>();
            for (int root : part(s)) {
                List<Integer> others = new ArrayList<>(part(s));
                others.remove((Integer) root);
                found.put(root, trees(others, 0, root, new HashMap<>(), BigInteger.ONE));
            }
            return found;
        });
    }

    private static BigInteger sum(Iterable<BigInteger> row) {
        BigInteger sum = BigInteger.ZERO;
        for (BigInteger v : row) {
            sum = sum.add(v);
        }
        return sum;
    }

    private static long fraction(BigInteger over, BigInteger under, int what) {
        BigInteger common = over.gcd(under);
        return (what == 0 ? over : under).divide(common).longValueExact();
    }

    private int refusal(int s) {
        return !shut(s) ? NONE : part(s).size() > 8 ? SPENT : 0;
    }

    long rest(int s, int what) {
        if (!isState(s) || !in(what, 0, 1)) {
            return BAD;
        }
        return refusal(s) != 0 ? refusal(s) : fraction(weights(s).get(s), sum(weights(s).values()), what);
    }

    long through(int s, int what) {
        if (!isState(s) || !in(what, 0, 1)) {
            return -100;
        }
        if (refusal(s) != 0) {
            return -100 + refusal(s);
        }
        BigInteger passing = BigInteger.ZERO;
        for (int x : part(s)) {
            boolean first = (x & 1) == 1;
            boolean second = (x & 2) == 2;
            int goes;
            if (n() == 1) {
                goes = first ? -told[7] : told[4];
            } else {
                goes = first && !second ? told[2] : !first && second ? -told[3] : 0;
            }
            passing = passing.add(weights(s).get(x).multiply(BigInteger.valueOf(goes)));
        }
        return fraction(passing, sum(weights(s).values()), what);
    }

    int even(int s) {
        if (!isState(s)) {
            return BAD;
        }
        if (refusal(s) != 0) {
            return refusal(s);
        }
        for (int x : part(s)) {
            for (int y : rates(x).keySet()) {
                BigInteger there = weights(s).get(x).multiply(BigInteger.valueOf(rate(x, y)));
                BigInteger back = weights(s).get(y).multiply(BigInteger.valueOf(rate(y, x)));
                if (!there.equals(back)) {
                    return 0;
                }
            }
        }
        return 1;
    }

    // ---- words

    private boolean words() {
        return open() && told[2] == 1 && told[3] == 0 && told[4] > 0 && told[5] == 0 && told[6] > 0 && told[7] == 0;
    }

    private static String spelled(int s, int n) {
        StringBuilder text = new StringBuilder();
        for (int i = 0; i < n; i++) {
            text.append(s >> i & 1);
        }
        return text.toString();
    }

    private BigInteger worth(String word) {
        BigInteger known = worths.get(word);
        if (known != null) {
            return known;
        }
        BigInteger a = BigInteger.valueOf(told[4]);
        BigInteger b = BigInteger.valueOf(told[6]);
        int i = word.indexOf("10");
        BigInteger worth;
        if (i >= 0) {
            BigInteger both = worth(word.substring(0, i) + word.substring(i + 1))
                    .add(worth(word.substring(0, i + 1) + word.substring(i + 2)));
            worth = both.multiply(a).multiply(b);
        } else {
            int grains = (int) word.chars().filter(c -> c == '1').count();
            worth = a.pow(grains).multiply(b.pow(word.length() - grains));
        }
        worths.put(word, worth);
        return worth;
    }

    private BigInteger sumOf(int m, int grains) {
        BigInteger sum = BigInteger.ZERO;
        for (int s = 0; s < 1 << m; s++) {
            if ((s & grains) == grains) {
                sum = sum.add(worth(spelled(s, m)));
            }
        }
        return sum;
    }

    long worth(int s) {
        return !isState(s) ? BAD : !words() ? STATE : worth(spelled(s, n())).longValueExact();
    }

    long all(int m) {
        return !in(m, 0, n()) ? BAD : !words() ? STATE : sumOf(m, 0).longValueExact();
    }

    long flow(int what) {
        if (!in(what, 0, 1)) {
            return BAD;
        }
        if (!words()) {
            return STATE;
        }
        BigInteger ends = BigInteger.valueOf(told[4] * told[6]);
        return fraction(ends.multiply(sumOf(n() - 1, 0)), sumOf(n(), 0), what);
    }

    long full(int i, int what) {
        if (!in(i, 0, n() - 1) || !in(what, 0, 1)) {
            return BAD;
        }
        return words() ? fraction(sumOf(n(), 1 << i), sumOf(n(), 0), what) : STATE;
    }

    long both(int i, int j, int what) {
        if (!in(i, 0, n() - 1) || !in(j, 0, n() - 1) || i == j || !in(what, 0, 1)) {
            return BAD;
        }
        return words() ? fraction(sumOf(n(), 1 << i | 1 << j), sumOf(n(), 0), what) : STATE;
    }

    int rule(int a, int b) {
        if (!in(a, 1, 10) || !in(b, 1, 10)) {
            return BAD;
        }
        if (a < 5 && a < b) {
            return 0;
        }
        if (b < 5 && b < a) {
            return 1;
        }
        return a >= 5 && b >= 5 ? 2 : 3;
    }

    int shock(int l, int r, int what) {
        if (!in(l, 0, 10) || !in(r, 0, 10) || !in(what, 0, 2)) {
            return -100;
        }
        if (l == r) {
            return -104;
        }
        if (what == 2) {
            return l + r == 10 ? 1 : 0;
        }
        return (int) fraction(BigInteger.valueOf(10 - l - r), BigInteger.TEN, what);
    }

    // ---- all at once, draws

    private int step(int s) {
        boolean[] row = places(s, n());
        boolean[] then = row.clone();
        for (int i = 0; i < n(); i++) {
            int j = (i + 1) % n();
            if (row[i] && !row[j]) {
                then[i] = false;
                then[j] = true;
            }
        }
        return number(then);
    }

    int atOnce(int s, int m) {
        if (!isState(s) || !in(m, 0, 1000)) {
            return BAD;
        }
        if (open()) {
            return STATE;
        }
        int at = s;
        for (int i = 0; i < m; i++) {
            at = step(at);
        }
        return at;
    }

    int round(int s, int what) {
        if (!isState(s) || !in(what, 0, 2)) {
            return BAD;
        }
        if (open()) {
            return STATE;
        }
        List<Integer> path = new ArrayList<>();
        int at = s;
        while (!path.contains(at)) {
            path.add(at);
            at = step(at);
        }
        int tail = path.indexOf(at);
        int hops = 0;
        for (int x : path.subList(tail, path.size())) {
            for (int i = 0; i < n(); i++) {
                hops += (x >> i & 1) == 1 && (x >> (i + 1) % n() & 1) == 0 ? 1 : 0;
            }
        }
        return what == 0 ? path.size() - tail : what == 1 ? tail : hops;
    }

    /** The states behind 0, 1, .. m ticks. */
    private List<Integer> ticks(int s, int seed, int m) {
        List<Integer> path = new ArrayList<>(List.of(s));
        int led = seed;
        for (int k = 0; k < m; k++) {
            led = (int) (led * 1103515245L + 12345L);
            int i = (led >> 16 & 0x7FFF) % n();
            int j = (i + 1) % n();
            boolean[] row = places(path.get(k), n());
            if (row[i] && !row[j]) {
                row[i] = false;
                row[j] = true;
            }
            path.add(number(row));
        }
        return path;
    }

    int run(int s, int seed, int m, int what) {
        if (!isState(s) || !in(m, 0, 200) || !in(what, 0, 1)) {
            return BAD;
        }
        if (open()) {
            return STATE;
        }
        List<Integer> path = ticks(s, seed, m);
        int hops = 0;
        for (int k = 0; k < m; k++) {
            hops += path.get(k).equals(path.get(k + 1)) ? 0 : 1;
        }
        return what == 0 ? path.get(m) : hops;
    }

    int coupled(int s, int t, int seed, int m, int what) {
        if (!isState(s) || !isState(t) || !in(m, 0, 200) || !in(what, 0, 2)) {
            return BAD;
        }
        if (open()) {
            return STATE;
        }
        List<Integer> one = ticks(s, seed, m);
        List<Integer> other = ticks(t, seed, m);
        int most = 0;
        int alike = m + 1;
        for (int k = m; k >= 0; k--) {
            int unlike = Integer.bitCount(one.get(k) ^ other.get(k));
            most = Math.max(most, unlike);
            if (unlike == 0 && alike == k + 1) {
                alike = k;
            }
        }
        if (what == 0) {
            return Integer.bitCount(one.get(m) ^ other.get(m));
        }
        return what == 2 ? most : alike > m ? NONE : alike;
    }

    // ---- rims, walkers

    private static final Map<Integer, Map<Integer, long[]>> RIMS = new HashMap<>();

    /** For each state that hops lead to: how many hops, in how many orders; spread hop by hop. */
    private static Map<Integer, long[]> rims(int s) {
        return RIMS.computeIfAbsent(s, k -> {
            Map<Integer, long[]> found = new HashMap<>();
            Map<Integer, Long> here = Map.of(s, 1L);
            for (int hops = 0; !here.isEmpty(); hops++) {
                Map<Integer, Long> then = new HashMap<>();
                for (Map.Entry<Integer, Long> e : here.entrySet()) {
                    found.put(e.getKey(), new long[] {hops, e.getValue()});
                    for (int i = 0; i < 7; i++) {
                        if ((e.getKey() >> i & 1) == 1 && (e.getKey() >> i + 1 & 1) == 0) {
                            then.merge(e.getKey() - (1 << i) + (1 << i + 1), e.getValue(), Long::sum);
                        }
                    }
                }
                here = then;
            }
            return found;
        });
    }

    int cells(int s, int t) {
        if (!in(s, 0, 255) || !in(t, 0, 255)) {
            return BAD;
        }
        long[] found = rims(s).get(t);
        return found == null ? NONE : (int) found[0];
    }

    long orders(int s, int t) {
        if (!in(s, 0, 255) || !in(t, 0, 255)) {
            return BAD;
        }
        long[] found = rims(s).get(t);
        return found == null ? 0 : found[1];
    }

    private static void walk(int[] at, int i, int[] then, long ways, Map<Integer, Long> found) {
        if (i == at.length) {
            int set = 0;
            for (int p : then) {
                if (p < 0 || p > 11 || (set >> p & 1) == 1) {
                    return;
                }
                set |= 1 << p;
            }
            found.merge(set, ways, Long::sum);
            return;
        }
        for (int way = -1; way <= 1; way += 2) {
            then[i] = at[i] + way;
            walk(at, i + 1, then, ways, found);
        }
    }

    long ways(int from, int to, int m) {
        int walkers = Integer.bitCount(from);
        if (!in(from, 0, 4095) || !in(to, 0, 4095) || !in(m, 0, 8) || !in(walkers, 1, 4)
                || Integer.bitCount(to) != walkers) {
            return BAD;
        }
        return waysFrom(from, m).getOrDefault(to, 0L);
    }

    static Map<Integer, Long> waysFrom(int from, int m) {
        Map<Integer, Long> here = Map.of(from, 1L);
        for (int k = 0; k < m; k++) {
            Map<Integer, Long> then = new HashMap<>();
            for (Map.Entry<Integer, Long> e : here.entrySet()) {
                int[] at = java.util.stream.IntStream.range(0, 12).filter(p -> (e.getKey() >> p & 1) == 1).toArray();
                walk(at, 0, new int[at.length], e.getValue(), then);
            }
            here = then;
        }
        return here;
    }

    // ---- two kinds

    /** The rows are gone through from the last place on: the order must not matter. */
    private static String viewed(int a, int b, int n) {
        char[] word = new char[n];
        for (int i = 0; i < n; i++) {
            word[i] = (b >> i & 1) == 1 ? '2' : '0';
        }
        for (int i = n - 1; i >= 0; i--) {
            if ((a >> i & 1) == 1) {
                int p = i;
                while (word[p] != '2') {
                    p = Math.floorMod(p - 1, n);
                }
                word[p] = '1';
            }
        }
        return new StringBuilder(new String(word)).reverse().toString();
    }

    int view(int a, int b) {
        if (!isState(a) || !isState(b) || Integer.bitCount(a) > Integer.bitCount(b)) {
            return BAD;
        }
        return Integer.parseInt(viewed(a, b, n()), 3);
    }

    private int seenOf(String word) {
        if (views == null) {
            views = new HashMap<>();
            for (int a = 0; a < 1 << n(); a++) {
                for (int b = 0; b < 1 << n(); b++) {
                    if (Integer.bitCount(a) <= Integer.bitCount(b)) {
                        views.merge(viewed(a, b, n()), 1, Integer::sum);
                    }
                }
            }
        }
        return views.getOrDefault(word, 0);
    }

    private String figures(int word) {
        String text = Integer.toString(word, 3);
        return "0".repeat(n() - text.length()) + text;
    }

    private boolean isWord(int word) {
        return in(word, 0, Math.round(Math.pow(3, n())) - 1);
    }

    int seen(int word) {
        return isWord(word) ? seenOf(figures(word)) : BAD;
    }

    /** The words that hops lead to from a word, one for each hop. */
    private List<String> hops(String word) {
        List<String> found = new ArrayList<>();
        int n = word.length();
        for (int i = 0; i < n; i++) {
            // figures have place 0 last
            int here = n - 1 - i;
            int next = n - 1 - (i + 1) % n;
            char x = word.charAt(here);
            char y = word.charAt(next);
            if (x == '1' && y != '1' || x == '2' && y == '0') {
                char[] then = word.toCharArray();
                then[here] = y;
                then[next] = x;
                found.add(new String(then));
            }
        }
        return found;
    }

    int word(int word, int what) {
        if (!isWord(word)) {
            return BAD;
        }
        String figures = figures(word);
        if (what == 0) {
            return hops(figures).size();
        }
        if (what == 1) {
            int sum = 0;
            for (int w = 0; isWord(w); w++) {
                for (String then : hops(figures(w))) {
                    sum += then.equals(figures) ? seenOf(figures(w)) : 0;
                }
            }
            return sum;
        }
        if (what == 2 || what == 3) {
            return (int) figures.chars().filter(c -> c == '0' + what - 1).count();
        }
        return in(what, 10, 9 + n()) ? figures.charAt(n() - 1 - (what - 10)) - '0' : BAD;
    }

    // ---- sheets: here the machine itself finds the faults

    int sheet(int k, int lane, int n) {
        if (!in(k, 0, 3) || !in(lane, 0, 2) || n > 64) {
            return BAD;
        }
        try {
            sheets[k] = lane == 0 ? new byte[n] : lane == 1 ? new short[n] : new int[n];
            return 1;
        } catch (NegativeArraySizeException e) {
            return -14;
        }
    }

    int lay(int k, int i, int v) {
        if (!in(k, 0, 3)) {
            return BAD;
        }
        try {
            if (sheets[k] instanceof byte[] row) {
                row[i] = (byte) v;
            } else if (sheets[k] instanceof short[] row) {
                row[i] = (short) v;
            } else {
                ((int[]) sheets[k])[i] = v;
            }
            return 1;
        } catch (NullPointerException e) {
            return -11;
        } catch (ArrayIndexOutOfBoundsException e) {
            return -12;
        }
    }

    private int cell(int k, int lane, int i) {
        sheets[k].getClass();
        return lane == 0 ? ((byte[]) sheets[k])[i] : lane == 1 ? ((short[]) sheets[k])[i] : ((int[]) sheets[k])[i];
    }

    int judge(int s, int k, int lane, int f) {
        if (!isState(s) || !in(k, 0, 3) || !in(lane, 0, 2)) {
            return BAD;
        }
        if (!shut(s)) {
            return NONE;
        }
        try {
            Map<Integer, Long> shares = new TreeMap<>();
            int i = 0;
            for (int x : part(s)) {
                int share = cell(k, lane, f + i);
                if (share < 0) {
                    return -20 - i;
                }
                shares.put(x, (long) share);
                i++;
            }
            return stands(shares) ? 1 : 0;
        } catch (NullPointerException e) {
            return -11;
        } catch (ArrayIndexOutOfBoundsException e) {
            return -12;
        } catch (ClassCastException e) {
            return -13;
        }
    }

    private boolean stands(Map<Integer, Long> shares) {
        boolean some = false;
        for (int y : shares.keySet()) {
            some |= shares.get(y) != 0;
            long comes = 0;
            for (int x : shares.keySet()) {
                comes += shares.get(x) * rate(x, y);
            }
            if (comes != shares.get(y) * of(y, 0)) {
                return false;
            }
        }
        return some;
    }

    int count(int what) {
        if (!in(what, 0, 2)) {
            return BAD;
        }
        if (what < 2) {
            return what == 0 ? 1 << n() : tape.length();
        }
        return sheets[0] == null ? NONE : java.lang.reflect.Array.getLength(sheets[0]);
    }
}
