/** Counts the answers that are not as due, for the tests that need no more than that. */
final class Due {
    static final int NONE = -1000000;
    static final int BAD = -1000001;
    static final int STATE = -1000002;
    static final int FULL = -1000003;
    static final int NULL = -1000011;
    static final int PLACE = -1000012;
    static final int KIND = -1000013;
    static final int SIZE = -1000014;
    static final int STORE = -1000015;

    private static int asked;
    private static int wrong;

    private Due() {
    }

    static void due(String call, long got, long want) {
        asked++;
        if (got != want) {
            wrong++;
            System.out.println(call + " answered " + got + ", due is " + want);
        }
    }

    static void feed(HeapEnds x, String text) {
        for (int i = 0; i < text.length(); i++) {
            x.feed(text.charAt(i), 1);
        }
    }

    /** A new object with a market read from a text that has no fault. */
    static HeapEnds read(String text) {
        HeapEnds x = new HeapEnds();
        readInto(x, text);
        return x;
    }

    static void readInto(HeapEnds x, String text) {
        feed(x, text);
        int wares = x.market();
        if (wares < 0) {
            due("market() of " + text, wares, 0);
        }
    }

    /** A row of ints with these items. */
    static void tell(HeapEnds x, int row, int... items) {
        x.row(row, 2, items.length);
        for (int i = 0; i < items.length; i++) {
            x.set(row, i, items[i]);
        }
    }

    static void end(String test) {
        System.out.println(test + ": " + asked + " answers, " + wrong + " not as due");
        if (wrong != 0) {
            System.exit(1);
        }
    }
}
