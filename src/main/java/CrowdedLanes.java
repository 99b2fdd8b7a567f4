/**
 * Crowded lanes: grains that hop along a ring or an open lane, one to a place.
 *
 * The face tests the numbers of each call and hands on to the class inside that knows the matter.
 * All rows are made with the object and used again, so that no call makes anything new.
 */
public final class CrowdedLanes {
    public static final int BAD = -1, STATE = -2, FULL = -3, NONE = -4, SPENT = -6;

    /** Where an answer itself may be below 0, refusals stand this much lower. */
    private static final int FAR = -100;
    /** A fault of a text (its place) or of a sheet is told below this. */
    private static final int FAULTY = -10;
    /** A cell below 0 is told below this. */
    private static final int CELL_BELOW = -20;

    private static final int MOST_AT_ONCE = 1000;
    private static final int MOST_TICKS = 200;

    private final Tape tape;
    private final Lane lane;
    private final Reader reader;
    private final Parts partition;
    private final Rest standing;
    private final Words wording;
    private final Line line;
    private final Sheets sheets;

    public CrowdedLanes() {
        tape = new Tape();
        lane = new Lane();
        reader = new Reader(tape);
        partition = new Parts(lane);
        standing = new Rest(lane);
        wording = new Words(lane);
        line = new Line();
        sheets = new Sheets();
    }

    // ---- the lane

    public int feed(long v) {
        return tape.append(v) ? tape.length() : FULL;
    }

    public int end(int n) {
        int had = tape.length();
        return tape.cut(n) ? had : BAD;
    }

    public int text() {
        boolean taken = reader.readText();
        tape.cut(0);
        if (!taken) {
            return FAULTY - reader.faultPlace();
        }
        reader.tellTo(lane);
        partition.forget();
        standing.forget();
        wording.forget();
        return reader.lines();
    }

    public int fault() {
        return reader.faultFound();
    }

    public int told(int what) {
        return within(what, 0, Lane.VALUES - 1) ? lane.value(what) : BAD;
    }

    public int rate(int s, int t) {
        return lane.isState(s) && lane.isState(t) ? lane.rateBetween(s, t) : BAD;
    }

    public int of(int s, int what) {
        if (!lane.isState(s)) {
            return BAD;
        }
        switch (what) {
            case 0: return lane.rateOut(s);
            case 1: return Long.bitCount(lane.targets(s));
            case 2: return Long.bitCount(partition.ready().reached(s));
            case 3: return Long.bitCount(partition.ready().partOf(s));
            case 4: return partition.ready().isShut(s) ? 1 : 0;
            case 5: return Long.numberOfTrailingZeros(partition.ready().partOf(s));
            case 6: return Integer.bitCount(s);
            default: return BAD;
        }
    }

    public int parts(int what) {
        switch (what) {
            case 0: return partition.ready().number(false);
            case 1: return partition.ready().number(true);
            case 2: return partition.ready().greatestShut();
            default: return BAD;
        }
    }

    public long rest(int s, int what) {
        if (!lane.isState(s) || !isFractionPart(what)) {
            return BAD;
        }
        int refusal = weigh(s);
        return refusal != 0 ? refusal : Whole.lowest(standing.weightOf(s), standing.total(), what);
    }

    public long through(int s, int what) {
        if (!lane.isState(s) || !isFractionPart(what)) {
            return FAR;
        }
        int refusal = weigh(s);
        return refusal != 0 ? FAR + refusal : Whole.lowest(standing.passingAtRest(), standing.total(), what);
    }

    public int even(int s) {
        if (!lane.isState(s)) {
            return BAD;
        }
        int refusal = weigh(s);
        if (refusal != 0) {
            return refusal;
        }
        return standing.agreesBothWays() ? 1 : 0;
    }

    // ---- words

    public long worth(int s) {
        if (!lane.isState(s)) {
            return BAD;
        }
        return lane.hasWords() ? wording.worthOf(s) : STATE;
    }

    public long all(int m) {
        if (!within(m, 0, lane.places())) {
            return BAD;
        }
        return lane.hasWords() ? wording.sum(m, 0) : STATE;
    }

    public long flow(int what) {
        if (!isFractionPart(what)) {
            return BAD;
        }
        if (!lane.hasWords()) {
            return STATE;
        }
        int n = lane.places();
        long ends = (long) lane.value(Lane.IN) * lane.value(Lane.OUT);
        return Whole.lowest(ends * wording.sum(n - 1, 0), wording.sum(n, 0), what);
    }

    public long full(int i, int what) {
        if (!lane.isPlace(i) || !isFractionPart(what)) {
            return BAD;
        }
        return shareByWords(1 << i, what);
    }

    public long both(int i, int j, int what) {
        if (!lane.isPlace(i) || !lane.isPlace(j) || i == j || !isFractionPart(what)) {
            return BAD;
        }
        return shareByWords(1 << i | 1 << j, what);
    }

    public int rule(int a, int b) {
        if (!within(a, 1, 10) || !within(b, 1, 10)) {
            return BAD;
        }
        if (a >= 5 && b >= 5) {
            return 2;
        }
        if (a == b) {
            return 3;
        }
        return a < b ? 0 : 1;
    }

    public int shock(int l, int r, int what) {
        if (!within(l, 0, 10) || !within(r, 0, 10) || !within(what, 0, 2)) {
            return FAR;
        }
        if (l == r) {
            return FAR + NONE;
        }
        int speed = 10 - l - r;
        if (what == 2) {
            return speed == 0 ? 1 : 0;
        }
        return (int) Whole.lowest(speed, 10, what);
    }

    // ---- all at once, draws

    public int atOnce(int s, int m) {
        if (!lane.isState(s) || !within(m, 0, MOST_AT_ONCE)) {
            return BAD;
        }
        return lane.isOpen() ? STATE : Ring.after(s, m, lane.places());
    }

    public int round(int s, int what) {
        if (!lane.isState(s) || !within(what, 0, 2)) {
            return BAD;
        }
        if (lane.isOpen()) {
            return STATE;
        }
        int n = lane.places();
        switch (what) {
            case 0: return Ring.roundLength(s, n);
            case 1: return Ring.tailLength(s, n);
            default: return Ring.roundHops(s, n);
        }
    }

    public int run(int s, int seed, int m, int what) {
        if (!lane.isState(s) || !within(m, 0, MOST_TICKS) || !within(what, 0, 1)) {
            return BAD;
        }
        if (lane.isOpen()) {
            return STATE;
        }
        int n = lane.places();
        return what == 0 ? Ring.drawn(s, seed, m, n) : Ring.drawnHops(s, seed, m, n);
    }

    public int coupled(int s, int t, int seed, int m, int what) {
        if (!lane.isState(s) || !lane.isState(t) || !within(m, 0, MOST_TICKS) || !within(what, 0, 2)) {
            return BAD;
        }
        if (lane.isOpen()) {
            return STATE;
        }
        int n = lane.places();
        switch (what) {
            case 0: return Integer.bitCount(Ring.drawn(s, seed, m, n) ^ Ring.drawn(t, seed, m, n));
            case 1: return Ring.alikeFrom(s, t, seed, m, n);
            default: return Ring.mostUnlike(s, t, seed, m, n);
        }
    }

    // ---- rims, walkers

    public int cells(int s, int t) {
        if (!Line.isRim(s) || !Line.isRim(t)) {
            return BAD;
        }
        return Line.hopsBetween(s, t);
    }

    public long orders(int s, int t) {
        if (!Line.isRim(s) || !Line.isRim(t)) {
            return BAD;
        }
        return line.ordersBetween(s, t);
    }

    public long ways(int from, int to, int m) {
        if (!Line.areWalkers(from) || !Line.areWalkers(to) || !within(m, 0, Line.MOST_STEPS)) {
            return BAD;
        }
        if (Integer.bitCount(from) != Integer.bitCount(to)) {
            return BAD;
        }
        return line.waysBetween(from, to, m);
    }

    // ---- two kinds

    public int view(int a, int b) {
        if (!lane.isState(a) || !lane.isState(b) || Integer.bitCount(a) > Integer.bitCount(b)) {
            return BAD;
        }
        int n = lane.places();
        int first = Kinds.taken(a, b, n);
        return Kinds.wordOf(first, b & ~first, n);
    }

    public int seen(int word) {
        int n = lane.places();
        if (!Kinds.isWord(word, n)) {
            return BAD;
        }
        return Kinds.seenAs(Kinds.placesOf(word, 1, n), Kinds.placesOf(word, 2, n), n);
    }

    public int word(int word, int what) {
        int n = lane.places();
        if (!Kinds.isWord(word, n)) {
            return BAD;
        }
        int first = Kinds.placesOf(word, 1, n);
        int second = Kinds.placesOf(word, 2, n);
        switch (what) {
            case 0: return Kinds.hopsOut(first, second, n);
            case 1: return Kinds.seenBefore(first, second, n);
            case 2: return Integer.bitCount(first);
            case 3: return Integer.bitCount(second);
            default: break;
        }
        return within(what, 10, 9 + n) ? Kinds.kindAt(first, second, what - 10) : BAD;
    }

    // ---- sheets

    public int sheet(int k, int lane, int n) {
        if (!Sheets.isSheet(k) || !Sheets.isKind(lane) || n > Sheets.MOST_CELLS) {
            return BAD;
        }
        if (n < 0) {
            return FAULTY - Sheets.SIZE;
        }
        sheets.renew(k, lane, n);
        return 1;
    }

    public int lay(int k, int i, int v) {
        if (!Sheets.isSheet(k)) {
            return BAD;
        }
        if (sheets.isNothing(k)) {
            return FAULTY - Sheets.NULL;
        }
        if (!sheets.hasCell(k, i)) {
            return FAULTY - Sheets.INDEX;
        }
        sheets.put(k, i, v);
        return 1;
    }

    public int judge(int s, int k, int lane, int f) {
        if (!this.lane.isState(s) || !Sheets.isSheet(k) || !Sheets.isKind(lane)) {
            return BAD;
        }
        if (!partition.ready().isShut(s)) {
            return NONE;
        }
        if (sheets.isNothing(k)) {
            return FAULTY - Sheets.NULL;
        }
        if (!sheets.isOfKind(k, lane)) {
            return FAULTY - Sheets.CAST;
        }
        return judgeCells(partition.partOf(s), k, f);
    }

    public int count(int what) {
        switch (what) {
            case 0: return lane.states();
            case 1: return tape.length();
            case 2: return sheets.isNothing(0) ? NONE : sheets.size(0);
            default: return BAD;
        }
    }

    // ---- what several calls share

    private static boolean within(int value, int least, int most) {
        return value >= least && value <= most;
    }

    private static boolean isFractionPart(int what) {
        return what == 0 || what == 1;
    }

    /** Has the weights of the part of s at hand: 0, or why there are none. */
    private int weigh(int s) {
        if (!partition.ready().isShut(s)) {
            return NONE;
        }
        long part = partition.partOf(s);
        if (Long.bitCount(part) > Rest.MOST_STATES) {
            return SPENT;
        }
        standing.weighPart(part);
        return 0;
    }

    private long shareByWords(int grains, int what) {
        if (!lane.hasWords()) {
            return STATE;
        }
        int n = lane.places();
        return Whole.lowest(wording.sum(n, grains), wording.sum(n, 0), what);
    }

    private int judgeCells(long part, int k, int f) {
        standing.emptyShares();
        int i = 0;
        for (int state = 0; state < Lane.MOST_STATES; state++) {
            if ((part >>> state & 1) == 0) {
                continue;
            }
            if (!sheets.hasCell(k, f + i)) {
                return FAULTY - Sheets.INDEX;
            }
            int share = sheets.cell(k, f + i);
            if (share < 0) {
                return CELL_BELOW - i;
            }
            standing.pourShare(state, share);
            i++;
        }
        return standing.sharesStand() ? 1 : 0;
    }

    /** Bytes that wait to be read as a text. */
    static final class Tape {
        static final int MOST_BYTES = 120;
        /** What stands behind the last byte; no byte is below 0 here. */
        static final int PAST_END = -1;

        private final byte[] bytes = new byte[MOST_BYTES];
        private int length;

        int length() {
            return length;
        }

        /** Takes the eight bytes of v, or nothing if there is no room for all of them. */
        boolean append(long v) {
            if (length + 8 > bytes.length) {
                return false;
            }
            for (int i = 0; i < 8; i++) {
                bytes[length + i] = (byte) (v >> 56 - 8 * i);
            }
            length += 8;
            return true;
        }

        boolean cut(int n) {
            if (n < 0 || n > length) {
                return false;
            }
            length = n;
            return true;
        }

        /** The byte at a place as 0 to 255. */
        int byteAt(int place) {
            if (place < 0 || place >= length || place >= bytes.length) {
                return PAST_END;
            }
            return bytes[place] & 255;
        }
    }

    /** What the text tells, and the hops that follow from it. */
    static final class Lane {
        static final int N = 0, OPEN = 1, RIGHT = 2, LEFT = 3, IN = 4, BACK_IN = 5, OUT = 6, BACK_OUT = 7;
        static final int VALUES = 8;
        static final int MOST_STATES = 64;

        private final int[] values = new int[VALUES];

        Lane() {
            for (int i = 0; i < VALUES; i++) {
                values[i] = atFirst(i);
            }
        }

        static int atFirst(int what) {
            switch (what) {
                case N: return 4;
                case RIGHT: return 1;
                case IN: return 1;
                case OUT: return 1;
                default: return 0;
            }
        }

        int value(int what) {
            return what >= 0 && what < values.length ? values[what] : 0;
        }

        void tellValue(int what, int value) {
            if (what >= 0 && what < values.length) {
                values[what] = value;
            }
        }

        int places() {
            return values[N];
        }

        boolean isOpen() {
            return values[OPEN] == 1;
        }

        int states() {
            return 1 << places();
        }

        boolean isState(int s) {
            return s >= 0 && s < states();
        }

        boolean isPlace(int i) {
            return i >= 0 && i < places();
        }

        /** Whether the shares of the lane are hidden in words. */
        boolean hasWords() {
            return isOpen() && values[RIGHT] == 1 && values[LEFT] == 0
                    && values[BACK_IN] == 0 && values[BACK_OUT] == 0
                    && values[IN] > 0 && values[OUT] > 0;
        }

        /**
         * Hops go over gates. Gate k of a ring lies between the places k and k + 1 (round), gate k of an
         * open lane between k - 1 and k, so that gates 0 and n are its ends. From each state at most one
         * hop goes over a gate, and it changes just the places beside the gate.
         */
        int gates() {
            return isOpen() ? places() + 1 : places();
        }

        /** The places that a hop over a gate changes. */
        int besideGate(int gate) {
            int n = places();
            if (isOpen()) {
                return 3 << gate >> 1 & (1 << n) - 1;
            }
            return 1 << gate | 1 << (gate + 1 == n ? 0 : gate + 1);
        }

        /** The rate of the hop over a gate, 0 if there is none. */
        int rateOver(int s, int gate) {
            int n = places();
            if (!isOpen()) {
                return rateOverBond(s, gate, gate + 1 == n ? 0 : gate + 1);
            }
            if (gate == 0) {
                return (s & 1) == 0 ? values[IN] : values[BACK_OUT];
            }
            if (gate == n) {
                return (s >> n - 1 & 1) == 1 ? values[OUT] : values[BACK_IN];
            }
            return rateOverBond(s, gate - 1, gate);
        }

        private int rateOverBond(int s, int left, int right) {
            int grains = (s >> left & 1) - (s >> right & 1);
            if (grains == 0) {
                return 0;
            }
            return grains > 0 ? values[RIGHT] : values[LEFT];
        }

        int rateBetween(int s, int t) {
            int sum = 0;
            for (int gate = 0; gate < gates(); gate++) {
                if ((s ^ besideGate(gate)) == t) {
                    sum += rateOver(s, gate);
                }
            }
            return sum;
        }

        int rateOut(int s) {
            int sum = 0;
            for (int gate = 0; gate < gates(); gate++) {
                sum += rateOver(s, gate);
            }
            return sum;
        }

        /** The states that hops lead to, as bits. */
        long targets(int s) {
            long found = 0;
            for (int gate = 0; gate < gates(); gate++) {
                if (rateOver(s, gate) > 0) {
                    found |= 1L << (s ^ besideGate(gate));
                }
            }
            return found;
        }

        /** What passes to the right from place 0 to 1, less what comes back (n 1: what comes in at the left). */
        int passing(int s) {
            if (places() == 1) {
                return (s & 1) == 0 ? values[IN] : -values[BACK_OUT];
            }
            int rate = rateOverBond(s, 0, 1);
            return (s & 1) == 1 ? rate : -rate;
        }
    }

    /** Reads the tape as a text; what it tells is kept apart until all of it has been taken. */
    static final class Reader {
        private static final int NO_TOKEN = 1, MISPLACED = 2, OUT_OF_BOUNDS = 3, TOLD_ALREADY = 4;
        private static final int WRONG = 0, NAME = 1, NUMBER = 2, STOP = 3, END = 4;
        private static final int RING = 0, OPEN = 1, HOP = 2, IN = 3, OUT = 4, NO_NAME = 5;
        private static final int BLANK = 32;

        private final Tape tape;
        private final int[] fresh = new int[Lane.VALUES];
        private int next;
        private int kind;
        private int value;
        private int place;
        private int namesTold;
        private int lines;
        private int fault;

        Reader(Tape tape) {
            this.tape = tape;
        }

        int faultFound() {
            return fault;
        }

        /** The place of the latest token: of a refused text, where its fault is. */
        int faultPlace() {
            return place;
        }

        int lines() {
            return lines;
        }

        void tellTo(Lane lane) {
            for (int i = 0; i < fresh.length; i++) {
                lane.tellValue(i, fresh[i]);
            }
        }

        boolean readText() {
            for (int i = 0; i < fresh.length; i++) {
                fresh[i] = Lane.atFirst(i);
            }
            next = 0;
            namesTold = 0;
            lines = 0;
            fault = 0;
            // each line has a byte at least
            for (int line = 0; line <= Tape.MOST_BYTES; line++) {
                readToken();
                if (kind == END) {
                    return true;
                }
                if (!takeLine()) {
                    return false;
                }
                lines++;
            }
            return true;
        }

        private boolean takeLine() {
            if (!expect(NAME)) {
                return false;
            }
            int name = value;
            // ring and open are one
            int told = 1 << (name == OPEN ? RING : name);
            if ((namesTold & told) != 0) {
                return refuse(TOLD_ALREADY);
            }
            namesTold |= told;
            if (name == RING || name == OPEN) {
                tellFresh(Lane.OPEN, name == OPEN ? 1 : 0);
                if (!takeNumber(Lane.N, name == OPEN ? 1 : 2, 6)) {
                    return false;
                }
            } else {
                int first = firstValue(name);
                if (!takeNumber(first, 0, 9) || !takeNumber(first + 1, 0, 9)) {
                    return false;
                }
            }
            readToken();
            return expect(STOP);
        }

        private static int firstValue(int name) {
            switch (name) {
                case HOP: return Lane.RIGHT;
                case IN: return Lane.IN;
                default: return Lane.OUT;
            }
        }

        private boolean takeNumber(int what, int least, int most) {
            readToken();
            if (!expect(NUMBER)) {
                return false;
            }
            if (value < least || value > most) {
                return refuse(OUT_OF_BOUNDS);
            }
            tellFresh(what, value);
            return true;
        }

        private void tellFresh(int what, int told) {
            if (what >= 0 && what < fresh.length) {
                fresh[what] = told;
            }
        }

        private boolean expect(int due) {
            if (kind == due) {
                return true;
            }
            return refuse(kind == WRONG ? NO_TOKEN : MISPLACED);
        }

        private boolean refuse(int found) {
            fault = found;
            return false;
        }

        private void readToken() {
            for (int i = 0; i < Tape.MOST_BYTES && tape.byteAt(next) == BLANK; i++) {
                next++;
            }
            place = next;
            int sign = tape.byteAt(next);
            if (sign == Tape.PAST_END) {
                kind = END;
            } else if (sign == ';') {
                kind = STOP;
                next++;
            } else if (isLetter(sign)) {
                readName();
            } else if (isFigure(sign)) {
                readNumber();
            } else {
                kind = WRONG;
            }
        }

        private void readName() {
            int packed = 0;
            for (int i = 0; i < Tape.MOST_BYTES && isLetter(tape.byteAt(next)); i++) {
                packed = packed << 8 | tape.byteAt(next);
                next++;
            }
            value = nameOf(packed);
            // of a longer name only the last four letters are left in what is packed
            kind = value != NO_NAME && next - place <= 4 ? NAME : WRONG;
        }

        private static int nameOf(int packed) {
            switch (packed) {
                case 'r' << 24 | 'i' << 16 | 'n' << 8 | 'g': return RING;
                case 'o' << 24 | 'p' << 16 | 'e' << 8 | 'n': return OPEN;
                case 'h' << 16 | 'o' << 8 | 'p': return HOP;
                case 'i' << 8 | 'n': return IN;
                case 'o' << 16 | 'u' << 8 | 't': return OUT;
                default: return NO_NAME;
            }
        }

        private void readNumber() {
            value = 0;
            for (int i = 0; i < Tape.MOST_BYTES && isFigure(tape.byteAt(next)); i++) {
                // a number that is too long is refused, so what wraps around does no harm
                value = value * 10 + tape.byteAt(next) - '0';
                next++;
            }
            kind = next - place <= 2 ? NUMBER : WRONG;
        }

        private static boolean isLetter(int sign) {
            return sign >= 'a' && sign <= 'z';
        }

        private static boolean isFigure(int sign) {
            return sign >= '0' && sign <= '9';
        }
    }

    /** Which states reach one another; found when first asked for, and kept until a text tells anew. */
    static final class Parts {
        private final Lane lane;
        private final long[] reach = new long[Lane.MOST_STATES];
        private final long[] part = new long[Lane.MOST_STATES];
        private boolean found;

        Parts(Lane lane) {
            this.lane = lane;
        }

        void forget() {
            found = false;
        }

        /** These parts, found if need be: whatever is asked of them is asked behind this. */
        Parts ready() {
            if (!found) {
                found = true;
                findReach();
                findParts();
            }
            return this;
        }

        /** All states that s reaches, as bits. */
        long reached(int s) {
            return s >= 0 && s < reach.length ? reach[s] : 0;
        }

        long partOf(int s) {
            return s >= 0 && s < part.length ? part[s] : 0;
        }

        /** A part is shut if nothing is reached beyond it. */
        boolean isShut(int s) {
            return reached(s) == partOf(s);
        }

        int number(boolean shutOnly) {
            int number = 0;
            for (int s = 0; s < lane.states(); s++) {
                if (isLeast(s) && (!shutOnly || isShut(s))) {
                    number++;
                }
            }
            return number;
        }

        int greatestShut() {
            int greatest = 0;
            for (int s = 0; s < lane.states(); s++) {
                if (isShut(s)) {
                    greatest = Math.max(greatest, Long.bitCount(partOf(s)));
                }
            }
            return greatest;
        }

        private boolean isLeast(int s) {
            return Long.numberOfTrailingZeros(partOf(s)) == s;
        }

        private void findReach() {
            int states = Math.min(lane.states(), reach.length);
            for (int s = 0; s < states; s++) {
                reach[s] = lane.targets(s) | 1L << s;
            }
            for (int by = 0; by < states; by++) {
                for (int s = 0; s < states; s++) {
                    if ((reach[s] >>> by & 1) == 1) {
                        reach[s] |= reach[by];
                    }
                }
            }
        }

        private void findParts() {
            int states = Math.min(lane.states(), reach.length);
            for (int s = 0; s < states; s++) {
                part[s] = 0;
            }
            for (int s = 0; s < states; s++) {
                if (part[s] == 0) {
                    spreadPart(s, states);
                }
            }
        }

        /** States are of one part just if they reach the same states, as each reaches itself. */
        private void spreadPart(int s, int states) {
            long members = 0;
            for (int t = s; t < states; t++) {
                if (reach[t] == reach[s]) {
                    members |= 1L << t;
                }
            }
            for (int t = s; t < states; t++) {
                if ((members >>> t & 1) == 1) {
                    part[t] = members;
                }
            }
        }
    }

    /** Shares of the states of a shut part: those that stand at rest, and rows of shares to be judged. */
    static final class Rest {
        static final int MOST_STATES = 8;

        private final Lane lane;
        private final int[] states = new int[MOST_STATES];
        private final long[] weights = new long[MOST_STATES];
        /** Row i, column j: less the rate from state i to j; on the diagonal all that goes out of i. */
        private final long[] outflow = new long[MOST_STATES * MOST_STATES];
        private final long[] minor = new long[(MOST_STATES - 1) * (MOST_STATES - 1)];
        private final long[] surplus = new long[Lane.MOST_STATES];
        private long weighed;
        private int size;
        private long total;
        private long poured;

        Rest(Lane lane) {
            this.lane = lane;
        }

        void forget() {
            weighed = 0;
        }

        /** Finds the weights of a shut part of 8 states at most, unless they are at hand. */
        void weighPart(long part) {
            if (part == weighed) {
                return;
            }
            weighed = part;
            listStates(part);
            fillOutflow();
            total = 0;
            for (int i = 0; i < size; i++) {
                weights[i] = treesTo(i);
                total += weights[i];
            }
        }

        private void listStates(long part) {
            size = 0;
            for (int s = 0; s < Lane.MOST_STATES && size < MOST_STATES; s++) {
                if ((part >>> s & 1) == 1) {
                    states[size] = s;
                    size++;
                }
            }
        }

        private void fillOutflow() {
            for (int i = 0; i < size; i++) {
                for (int j = 0; j < size; j++) {
                    int s = states[i];
                    outflow[i * size + j] = i == j ? lane.rateOut(s) : -lane.rateBetween(s, states[j]);
                }
            }
        }

        /** All trees that lead to one state, by the products of their rates, are a minor of the outflow. */
        private long treesTo(int root) {
            int at = 0;
            for (int i = 0; i < size; i++) {
                for (int j = 0; j < size; j++) {
                    if (i != root && j != root && at < minor.length) {
                        minor[at] = outflow[i * size + j];
                        at++;
                    }
                }
            }
            return Whole.determinant(minor, size - 1);
        }

        long total() {
            return total;
        }

        long weightOf(int s) {
            for (int i = 0; i < size; i++) {
                if (states[i] == s) {
                    return weights[i];
                }
            }
            return 0;
        }

        long passingAtRest() {
            long sum = 0;
            for (int i = 0; i < size; i++) {
                sum += weights[i] * lane.passing(states[i]);
            }
            return sum;
        }

        /** Whether as much goes from each state to each other one as comes back. */
        boolean agreesBothWays() {
            for (int i = 0; i < size; i++) {
                for (int j = 0; j < i; j++) {
                    if (weights[i] * outflow[i * size + j] != weights[j] * outflow[j * size + i]) {
                        return false;
                    }
                }
            }
            return true;
        }

        void emptyShares() {
            for (int i = 0; i < surplus.length; i++) {
                surplus[i] = 0;
            }
            poured = 0;
        }

        /** Lets a share of a state go by all hops to where they lead. */
        void pourShare(int s, int share) {
            poured += share;
            for (int gate = 0; gate < lane.gates(); gate++) {
                long goes = (long) share * lane.rateOver(s, gate);
                int target = s ^ lane.besideGate(gate);
                if (s >= 0 && s < surplus.length && target >= 0 && target < surplus.length) {
                    surplus[s] -= goes;
                    surplus[target] += goes;
                }
            }
        }

        boolean sharesStand() {
            for (int i = 0; i < surplus.length; i++) {
                if (surplus[i] != 0) {
                    return false;
                }
            }
            return poured > 0;
        }
    }

    /** The worths of all states of an open lane, and of all shorter ones that they are made from. */
    static final class Words {
        private final Lane lane;
        /** The worth of a state of m places stands at the state with bit m set above it. */
        private final long[] worths = new long[2 * Lane.MOST_STATES];
        private boolean found;

        Words(Lane lane) {
            this.lane = lane;
        }

        void forget() {
            found = false;
        }

        long worthOf(int s) {
            find();
            return at(lane.places(), s);
        }

        /** The worths of all states of m places that have these grains (and maybe more). */
        long sum(int m, int grains) {
            find();
            long sum = 0;
            for (int s = 0; s < 1 << m; s++) {
                if ((s & grains) == grains) {
                    sum += at(m, s);
                }
            }
            return sum;
        }

        private long at(int m, int s) {
            int index = 1 << m | s;
            return index >= 0 && index < worths.length ? worths[index] : 0;
        }

        private void find() {
            if (found) {
                return;
            }
            found = true;
            for (int m = 0; m <= lane.places(); m++) {
                for (int s = 0; s < 1 << m; s++) {
                    int index = 1 << m | s;
                    if (index < worths.length) {
                        worths[index] = fromShorter(m, s);
                    }
                }
            }
        }

        private long fromShorter(int m, int s) {
            long a = lane.value(Lane.IN);
            long b = lane.value(Lane.OUT);
            // of no places there is nothing to shift by m - 1
            int ready = m == 0 ? 0 : s & ~(s >> 1) & (1 << m - 1) - 1;
            if (ready == 0) {
                int grains = Integer.bitCount(s);
                return power(a, grains) * power(b, m - grains);
            }
            int i = Integer.numberOfTrailingZeros(ready);
            return a * b * (at(m - 1, without(s, i)) + at(m - 1, without(s, i + 1)));
        }

        private static int without(int s, int i) {
            return s & (1 << i) - 1 | s >> i + 1 << i;
        }

        private static long power(long base, int exponent) {
            long product = 1;
            for (int i = 0; i < exponent; i++) {
                product *= base;
            }
            return product;
        }
    }

    /** Grains that go to the right on a ring of n places: all at once, or one after another by draws. */
    static final class Ring {
        private static final int FACTOR = 1103515245, ADDEND = 12345;

        /** The grains whose next place is free. */
        private static int ready(int s, int n) {
            int ahead = s >> 1 | (s & 1) << n - 1;
            return s & ~ahead;
        }

        private static int step(int s, int n) {
            int going = ready(s, n);
            int gone = (going << 1 | going >> n - 1) & (1 << n) - 1;
            return s & ~going | gone;
        }

        static int after(int s, int steps, int n) {
            int at = s;
            for (int i = 0; i < steps; i++) {
                at = step(at, n);
            }
            return at;
        }

        /** By as many steps as there are states, what does not come back has been left behind. */
        private static int onRound(int s, int n) {
            return after(s, 1 << n, n);
        }

        static int roundLength(int s, int n) {
            int start = onRound(s, n);
            int at = step(start, n);
            int length = 1;
            for (int i = 0; i < 1 << n && at != start; i++) {
                at = step(at, n);
                length++;
            }
            return length;
        }

        static int tailLength(int s, int n) {
            int behind = s;
            int ahead = after(s, roundLength(s, n), n);
            int length = 0;
            for (int i = 0; i < 1 << n && behind != ahead; i++) {
                behind = step(behind, n);
                ahead = step(ahead, n);
                length++;
            }
            return length;
        }

        static int roundHops(int s, int n) {
            int at = onRound(s, n);
            int length = roundLength(s, n);
            int hops = 0;
            for (int i = 0; i < length; i++) {
                hops += Integer.bitCount(ready(at, n));
                at = step(at, n);
            }
            return hops;
        }

        private static int leadOn(int seed) {
            return seed * FACTOR + ADDEND;
        }

        private static int draw(int seed, int k) {
            return k > 0 ? (seed >>> 16 & 32767) % k : 0;
        }

        /** What becomes of a state in one tick by a seed that has been led on. */
        private static int tick(int s, int seed, int n) {
            int going = ready(s, n) & 1 << draw(seed, n);
            int gone = (going << 1 | going >> n - 1) & (1 << n) - 1;
            return s & ~going | gone;
        }

        static int drawn(int s, int seed, int ticks, int n) {
            int at = s;
            int led = seed;
            for (int i = 0; i < ticks; i++) {
                led = leadOn(led);
                at = tick(at, led, n);
            }
            return at;
        }

        static int drawnHops(int s, int seed, int ticks, int n) {
            int at = s;
            int led = seed;
            int hops = 0;
            for (int i = 0; i < ticks; i++) {
                led = leadOn(led);
                int then = tick(at, led, n);
                hops += then == at ? 0 : 1;
                at = then;
            }
            return hops;
        }

        /** The tick from which on both are alike: the same draws never part them again. */
        static int alikeFrom(int s, int t, int seed, int ticks, int n) {
            int one = s;
            int other = t;
            int led = seed;
            for (int i = 0; i < ticks; i++) {
                if (one == other) {
                    return i;
                }
                led = leadOn(led);
                one = tick(one, led, n);
                other = tick(other, led, n);
            }
            return one == other ? ticks : NONE;
        }

        static int mostUnlike(int s, int t, int seed, int ticks, int n) {
            int one = s;
            int other = t;
            int led = seed;
            int most = Integer.bitCount(one ^ other);
            for (int i = 0; i < ticks; i++) {
                led = leadOn(led);
                one = tick(one, led, n);
                other = tick(other, led, n);
                most = Math.max(most, Integer.bitCount(one ^ other));
            }
            return most;
        }
    }

    /** What goes on along a line: rims that grow, walkers that never meet. */
    static final class Line {
        static final int MOST_STEPS = 8;
        private static final int RIM_PLACES = 8;
        private static final int WALK_PLACES = 12;
        private static final int MOST_WALKERS = 4;

        private final long[] orders = new long[1 << RIM_PLACES];
        private long[] walks = new long[WALK_PLACES];
        private long[] walksThen = new long[WALK_PLACES];
        private final int[] starts = new int[MOST_WALKERS];
        private final int[] stops = new int[MOST_WALKERS];
        private final long[] table = new long[MOST_WALKERS * MOST_WALKERS];

        static boolean isRim(int s) {
            return s >= 0 && s < 1 << RIM_PLACES;
        }

        static boolean areWalkers(int s) {
            int walkers = Integer.bitCount(s);
            return s >= 0 && s < 1 << WALK_PLACES && walkers >= 1 && walkers <= MOST_WALKERS;
        }

        /** Grains never pass one another: the lowest of s becomes the lowest of t, and so on. */
        static int hopsBetween(int s, int t) {
            if (Integer.bitCount(s) != Integer.bitCount(t)) {
                return NONE;
            }
            int hops = 0;
            int from = s;
            int to = t;
            for (int i = 0; i < RIM_PLACES && from != 0; i++) {
                int way = Integer.numberOfTrailingZeros(to) - Integer.numberOfTrailingZeros(from);
                if (way < 0) {
                    return NONE;
                }
                hops += way;
                from &= from - 1;
                to &= to - 1;
            }
            return hops;
        }

        /** A hop to the right makes a state greater, so all that leads to a state stands below it. */
        long ordersBetween(int s, int t) {
            if (!isRim(s) || !isRim(t) || s > t) {
                return 0;
            }
            for (int x = s; x <= t && x < orders.length; x++) {
                orders[x] = 0;
            }
            orders[s] = 1;
            for (int x = s; x < t && x < orders.length; x++) {
                if (orders[x] != 0) {
                    passOn(x, t);
                }
            }
            return orders[t];
        }

        private void passOn(int x, int last) {
            for (int i = 0; i + 1 < RIM_PLACES; i++) {
                int then = x + (1 << i);
                boolean hops = (x >> i & 3) == 1;
                if (hops && then <= last && then < orders.length) {
                    orders[then] += orders[x];
                }
            }
        }

        /**
         * Walkers on even and on odd places never come to one place, and those on like ones would have to
         * meet before they pass: so the determinant of all ways of single walkers counts just the ways
         * without a meeting. Likes stand together in both rows, so that it is not turned below 0.
         */
        long waysBetween(int from, int to, int steps) {
            int size = Integer.bitCount(from);
            if (size > MOST_WALKERS || size != Integer.bitCount(to)) {
                return 0;
            }
            listPlaces(from, 0, starts);
            listPlaces(to, steps & 1, stops);
            for (int i = 0; i < size && i < starts.length; i++) {
                walkFrom(starts[i], steps);
                for (int j = 0; j < size && j < stops.length; j++) {
                    table[i * size + j] = walksTo(stops[j]);
                }
            }
            return Whole.determinant(table, size);
        }

        /** The places of a set: the even ones and then the odd ones, or the odd ones first. */
        private static void listPlaces(int set, int oddFirst, int[] row) {
            int at = 0;
            for (int turn = 0; turn < 2; turn++) {
                for (int p = oddFirst ^ turn; p < WALK_PLACES; p += 2) {
                    if ((set >> p & 1) == 1 && at < row.length) {
                        row[at] = p;
                        at++;
                    }
                }
            }
        }

        private void walkFrom(int start, int steps) {
            for (int p = 0; p < walks.length; p++) {
                walks[p] = p == start ? 1 : 0;
            }
            for (int i = 0; i < steps; i++) {
                for (int p = 0; p < walksThen.length; p++) {
                    walksThen[p] = walksTo(p - 1) + walksTo(p + 1);
                }
                long[] spare = walks;
                walks = walksThen;
                walksThen = spare;
            }
        }

        private long walksTo(int p) {
            return p >= 0 && p < walks.length ? walks[p] : 0;
        }
    }

    /** Two kinds on a ring of n places, each kind as the bits of its places. */
    static final class Kinds {
        static boolean isWord(int word, int n) {
            int words = 1;
            for (int i = 0; i < n; i++) {
                words *= 3;
            }
            return word >= 0 && word < words;
        }

        static int placesOf(int word, int kind, int n) {
            int places = 0;
            int left = word;
            for (int i = 0; i < n; i++) {
                if (left % 3 == kind) {
                    places |= 1 << i;
                }
                left /= 3;
            }
            return places;
        }

        static int wordOf(int first, int second, int n) {
            int word = 0;
            for (int i = n - 1; i >= 0; i--) {
                word = word * 3 + kindAt(first, second, i);
            }
            return word;
        }

        static int kindAt(int first, int second, int i) {
            return (first >> i & 1) + 2 * (second >> i & 1);
        }

        /** What the row a takes of the row b, each grain on its way to the left. */
        static int taken(int a, int b, int n) {
            int left = b;
            for (int i = 0; i < n; i++) {
                if ((a >> i & 1) == 1) {
                    left &= ~firstToTheLeft(left, i, n);
                }
            }
            return b & ~left;
        }

        /** The bit of the first place of a row from i on to the left, round; 0 if the row is empty. */
        private static int firstToTheLeft(int row, int i, int n) {
            int p = i;
            for (int turn = 0; turn < n; turn++) {
                if ((row >> p & 1) == 1) {
                    return 1 << p;
                }
                p = p == 0 ? n - 1 : p - 1;
            }
            return 0;
        }

        /** The second row is the places of both kinds: only the first one is open. */
        static int seenAs(int first, int second, int n) {
            int pairs = 0;
            int grains = Integer.bitCount(first);
            for (int a = 0; a < 1 << n; a++) {
                if (Integer.bitCount(a) == grains && taken(a, first | second, n) == first) {
                    pairs++;
                }
            }
            return pairs;
        }

        private static boolean hops(int here, int next) {
            return here == 1 && next != 1 || here == 2 && next == 0;
        }

        private static int nextPlace(int i, int n) {
            return i + 1 == n ? 0 : i + 1;
        }

        static int hopsOut(int first, int second, int n) {
            int hops = 0;
            for (int i = 0; i < n; i++) {
                if (hops(kindAt(first, second, i), kindAt(first, second, nextPlace(i, n)))) {
                    hops++;
                }
            }
            return hops;
        }

        /** How often the words are seen from which hops lead to this one. */
        static int seenBefore(int first, int second, int n) {
            int sum = 0;
            for (int i = 0; i < n; i++) {
                int j = nextPlace(i, n);
                // before the hop the two stood the other way round
                if (hops(kindAt(first, second, j), kindAt(first, second, i))) {
                    sum += seenAs(changed(first, i, j), changed(second, i, j), n);
                }
            }
            return sum;
        }

        private static int changed(int row, int i, int j) {
            boolean alike = (row >> i & 1) == (row >> j & 1);
            return alike ? row : row ^ (1 << i | 1 << j);
        }
    }

    /** Four rows of cells of one of three kinds. */
    static final class Sheets {
        static final int NULL = 1, INDEX = 2, CAST = 3, SIZE = 4;
        static final int MOST_CELLS = 64;
        private static final int SHEETS = 4;
        private static final int NOTHING = -1, BYTES = 0, SHORTS = 1, INTS = 2;

        private final int[] kinds = new int[SHEETS];
        private final int[] sizes = new int[SHEETS];
        private final int[] cells = new int[SHEETS * MOST_CELLS];

        Sheets() {
            for (int k = 0; k < SHEETS; k++) {
                kinds[k] = NOTHING;
            }
        }

        static boolean isSheet(int k) {
            return k >= 0 && k < SHEETS;
        }

        static boolean isKind(int kind) {
            return kind >= BYTES && kind <= INTS;
        }

        void renew(int k, int kind, int n) {
            if (!isSheet(k) || !isKind(kind) || n < 0 || n > MOST_CELLS) {
                return;
            }
            kinds[k] = kind;
            sizes[k] = n;
            for (int i = 0; i < n; i++) {
                cells[k * MOST_CELLS + i] = 0;
            }
        }

        boolean isNothing(int k) {
            return !isSheet(k) || kinds[k] == NOTHING;
        }

        boolean isOfKind(int k, int kind) {
            return isSheet(k) && kinds[k] == kind;
        }

        int size(int k) {
            return isSheet(k) ? sizes[k] : 0;
        }

        boolean hasCell(int k, int i) {
            return isSheet(k) && i >= 0 && i < sizes[k];
        }

        int cell(int k, int i) {
            return hasCell(k, i) ? cells[k * MOST_CELLS + i] : 0;
        }

        void put(int k, int i, int v) {
            if (!hasCell(k, i)) {
                return;
            }
            cells[k * MOST_CELLS + i] = narrowed(kinds[k], v);
        }

        private static int narrowed(int kind, int v) {
            switch (kind) {
                case BYTES: return (byte) v;
                case SHORTS: return (short) v;
                default: return v;
            }
        }
    }

    /** Whole numbers without loss. */
    static final class Whole {
        /** Euclid's way ends within some ninety steps for every long. */
        private static final int MOST_TURNS = 100;

        /** A fraction in lowest terms: its numerator (what 0) or its denominator. */
        static long lowest(long over, long under, int what) {
            long common = commonDivisor(Math.abs(over), under);
            if (common == 0) {
                return 0;
            }
            return (what == 0 ? over : under) / common;
        }

        private static long commonDivisor(long a, long b) {
            long one = a;
            long other = b;
            for (int i = 0; i < MOST_TURNS && other != 0; i++) {
                long left = one % other;
                one = other;
                other = left;
            }
            return one;
        }

        /**
         * The determinant of a table that is used up; each division here leaves nothing over. Tables of trees
         * and of ways have no minor at their upper left that is 0, unless the determinant is 0 too: so no rows
         * have to be changed for a head that is not 0.
         */
        static long determinant(long[] table, int size) {
            if (size < 0 || size * size > table.length) {
                return 0;
            }
            long before = 1;
            for (int k = 0; k < size; k++) {
                clearBelow(table, size, k, before);
                before = table[k * size + k];
                if (before == 0) {
                    return 0;
                }
            }
            return before;
        }

        private static void clearBelow(long[] table, int size, int k, long before) {
            long head = table[k * size + k];
            for (int i = k + 1; i < size; i++) {
                for (int j = k + 1; j < size; j++) {
                    long crossed = table[i * size + j] * head - table[i * size + k] * table[k * size + j];
                    table[i * size + j] = before == 0 ? 0 : crossed / before;
                }
            }
        }
    }
}
