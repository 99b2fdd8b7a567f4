import java.util.Arrays;
import java.util.function.IntToLongFunction;

/** Counts answers that are not as due, and tells texts to objects. */
final class Check {
    private final String name;
    private String sentence = "";
    private int asked;
    private int askedBefore;
    private int wrong;

    Check(String name) {
        this.name = name;
    }

    /** What is asked from here on is about this sentence of the document; the one before must have been asked about. */
    void says(String words) {
        if (!sentence.isEmpty() && asked == askedBefore) {
            wrong++;
            System.out.println(name + ": nothing was asked about \"" + sentence + "\"");
        }
        askedBefore = asked;
        sentence = words;
    }

    private String about() {
        return sentence.isEmpty() ? name : name + ": \"" + sentence + "\"";
    }

    void due(String call, long got, long want) {
        asked++;
        if (got != want) {
            wrong++;
            System.out.println(about() + ": " + call + " answered " + got + ", due is " + want);
        }
    }

    void holds(String what, boolean so) {
        asked++;
        if (!so) {
            wrong++;
            System.out.println(about() + ": does not hold: " + what);
        }
    }

    /** A number of a call has bounds: at both of them it is taken, beyond them it is refused. */
    void bounds(String number, int least, int most, long refusal, IntToLongFunction call) {
        for (int v : new int[] {least, most}) {
            holds(number + " " + v + " is taken", call.applyAsLong(v) != refusal);
        }
        for (int v : new int[] {least - 1, most + 1, Integer.MIN_VALUE, Integer.MAX_VALUE}) {
            due(number + " " + v, call.applyAsLong(v), refusal);
        }
    }

    /** Both parts of a fraction. */
    void fraction(String what, IntToLongFunction part, long over, long under) {
        due(what + " numerator", part.applyAsLong(0), over);
        due(what + " denominator", part.applyAsLong(1), under);
    }

    boolean failed() {
        return wrong != 0;
    }

    void close() {
        says("");
        System.out.println(name + ": " + asked + " answers, " + wrong + " not as due");
        if (wrong != 0 || asked == 0) {
            System.exit(1);
        }
    }

    /** The longs that bring a text (of characters 0 to 255) onto the tape; the last one is filled up with blanks. */
    static long[] longs(String text) {
        long[] row = new long[(text.length() + 7) / 8];
        for (int i = 0; i < 8 * row.length; i++) {
            row[i / 8] = row[i / 8] << 8 | (i < text.length() ? text.charAt(i) & 255 : 32);
        }
        return row;
    }

    /** Brings a text onto an empty tape. */
    static void write(CrowdedLanes x, String text) {
        for (long v : longs(text)) {
            x.feed(v);
        }
        x.end(text.length());
    }

    static int tell(CrowdedLanes x, String text) {
        write(x, text);
        return x.text();
    }

    static CrowdedLanes lane(String text) {
        CrowdedLanes x = new CrowdedLanes();
        if (tell(x, text) < 0) {
            throw new IllegalStateException("not taken: " + text);
        }
        return x;
    }

    /** All answers of an object that show what it holds; looking changes nothing. */
    static long[] held(CrowdedLanes x) {
        long[] row = new long[12];
        for (int i = 0; i < 8; i++) {
            row[i] = x.told(i);
        }
        row[8] = x.fault();
        for (int i = 0; i < 3; i++) {
            row[9 + i] = x.count(i);
        }
        return row;
    }

    void same(String what, long[] before, long[] then) {
        holds(what + " changes nothing", Arrays.equals(before, then));
    }
}
