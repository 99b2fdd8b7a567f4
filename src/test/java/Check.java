import java.util.Arrays;

/** Counts answers that are not as due, and tells texts to objects. */
final class Check {
    private final String name;
    private int asked;
    private int wrong;

    Check(String name) {
        this.name = name;
    }

    void due(String call, long got, long want) {
        asked++;
        if (got != want) {
            wrong++;
            System.out.println(name + ": " + call + " answered " + got + ", due is " + want);
        }
    }

    void holds(String what, boolean so) {
        asked++;
        if (!so) {
            wrong++;
            System.out.println(name + ": does not hold: " + what);
        }
    }

    boolean failed() {
        return wrong != 0;
    }

    void close() {
        System.out.println(name + ": " + asked + " answers, " + wrong + " not as due");
        if (wrong != 0 || asked == 0) {
            System.exit(1);
        }
    }

    /** The longs that bring a text (of characters 0 to 255) onto the tape; the last one is filled up with blanks. */
    static long[] longs(String text) {
        long[] row = new long[(text.length() + 7) / 8];
        for (int i = 0; i < 8 * row.length; i++) {
            row[i / 8] = row[i / 8] << 8 | (i < text.length() ? text.charAt(i) & 255 : 32);
        }
        return row;
    }

    /** Brings a text onto an empty tape. */
    static void write(CrowdedLanes x, String text) {
        for (long v : longs(text)) {
            x.feed(v);
        }
        x.end(text.length());
    }

    static int tell(CrowdedLanes x, String text) {
        write(x, text);
        return x.text();
    }

    static CrowdedLanes lane(String text) {
        CrowdedLanes x = new CrowdedLanes();
        if (tell(x, text) < 0) {
            throw new IllegalStateException("not taken: " + text);
        }
        return x;
    }

    /** All answers of an object that show what it holds; looking changes nothing. */
    static long[] held(CrowdedLanes x) {
        long[] row = new long[12];
        for (int i = 0; i < 8; i++) {
            row[i] = x.told(i);
        }
        row[8] = x.fault();
        for (int i = 0; i < 3; i++) {
            row[9 + i] = x.count(i);
        }
        return row;
    }

    void same(String what, long[] before, long[] then) {
        holds(what + " changes nothing", Arrays.equals(before, then));
    }
}
