import java.util.function.IntUnaryOperator;

/** What the tests of hand-worked answers share: the counting of answers, and objects to begin with. */
class Asked {
    static final int NONE = StormSlots.NONE;
    static final int CANNOT = -1000000;
    static final int LEAST = Integer.MIN_VALUE;
    static final int MOST = Integer.MAX_VALUE;

    /** The promise, or the document's own words, that the answers asked for now are due by. */
    static String about = "";
    private static int wrong;
    private static int asked;

    static void due(String call, int got, int want) {
        asked++;
        if (got != want) {
            wrong++;
            System.out.println(about + ": " + call + " answered " + got + ", due is " + want);
        }
    }

    static void due(String call, boolean got, boolean want) {
        due(call, got ? 1 : 0, want ? 1 : 0);
    }

    static void due(String call, String got, String want) {
        asked++;
        if (!got.equals(want)) {
            wrong++;
            System.out.println(about + ": " + call + " came to \"" + got + "\", due is \"" + want + "\"");
        }
    }

    /** The first and the last value that are allowed, those next to them that are not, and the ends of all ints. */
    static void ends(String call, IntUnaryOperator on, int first, int atFirst, int last, int atLast, int refused) {
        due(call + " of " + first, on.applyAsInt(first), atFirst);
        due(call + " of " + last, on.applyAsInt(last), atLast);
        for (int v : new int[] {first - 1, last + 1, LEAST, MOST}) due(call + " of " + v, on.applyAsInt(v), refused);
    }

    static void end() {
        System.out.println(wrong == 0 ? asked + " answers are as due" : wrong + " of " + asked + " answers are not as due");
        if (wrong != 0) System.exit(1);
    }

    // ---- what the tests begin with

    /** Feeds a text, filled up with a sign that no schedule has. */
    static void feed(StormSlots x, String text) {
        StringBuilder b = new StringBuilder(text);
        while (b.length() % 20 != 0) b.append('#');
        for (int k = 0; k < b.length(); k += 20) {
            int[] v = new int[5];
            for (int i = 0; i < 20; i++) v[i / 4] = v[i / 4] << 8 | b.charAt(k + i);
            x.feed(v[0], v[1], v[2], v[3], v[4]);
        }
    }

    static int read(StormSlots x, String text) {
        feed(x, text);
        return x.schedule(text.length());
    }

    static StormSlots of(String text) {
        StormSlots x = new StormSlots();
        read(x, text);
        return x;
    }

    /** Slots 120, 140, .. 220 in the hours 2 and 3, and planned. */
    static StormSlots slow(String text) {
        StormSlots x = of(text);
        x.rate(2, 3);
        x.rate(3, 3);
        x.plan();
        return x;
    }

    /** Slots 120 to 220, holds 0, 19, 38, 57, 76, 95, costs 0, 57, 76, 57, 76, 380; off at 90, 110, .. 190. */
    static StormSlots six() {
        return slow("a120/30;a121/30*3;b122/30*2;b123/30;c124/30;c125/30*4");
    }

    /** Six of line 0 that are all alike: slots 120, 140, .. 220; off at 90, 110, .. 190. */
    static StormSlots alike() {
        return slow("a120/30;a120/30;a120/30;a120/30;a120/30;a120/30");
    }

    /** Slots 120, 125, 130; off at 60, 65, 70. */
    static StormSlots three() {
        StormSlots x = of("a120/60;b120/60;c120/60");
        x.plan();
        return x;
    }

    /** Slots 120, 140, 160, 180, the lines in turn. */
    static StormSlots market() {
        return slow("a120/30;b120/30;a120/30*5;b120/30*9");
    }

    /** Three lines in turn, slots 120 to 220. */
    static StormSlots ring() {
        return slow("a120/30;b120/30;c120/30;a120/30*2;b120/30*3;c120/30*4");
    }

    /** Twenty of line 0 that are all alike: slots 120, 125, .. 215; off at 90, 95, .. 185. */
    static StormSlots twenty() {
        StormSlots x = of("a120/30;".repeat(19) + "a120/30");
        x.plan();
        return x;
    }

    static void slots(StormSlots x, int... want) {
        for (int f = 0; f < want.length; f++) due("told(" + f + ", 5)", x.told(f, 5), want[f]);
    }
}
