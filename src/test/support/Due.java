/** Counts the answers that are not as due, for the tests that need no more than that. */
final class Due {
    static final int NONE = -1000000;
    static final int BAD = -1000001;
    static final int STATE = -1000002;
    static final int FULL = -1000003;
    static final int NULL = -1000011;
    static final int PLACE = -1000012;
    static final int KIND = -1000013;
    static final int SIZE = -1000014;
    static final int STORE = -1000015;

    private static int asked;
    private static int wrong;
    private static int sentences;
    private static String sentence = "";

    private Due() {
    }

    /** What is due from now on is so by these words of the document. */
    static void sentence(String where, String words) {
        sentences++;
        sentence = where + ", \"" + words + "\": ";
    }

    static void due(String call, long got, long want) {
        asked++;
        if (got != want) {
            wrong++;
            System.out.println(sentence + call + " answered " + got + ", due is " + want);
        }
    }

    /** Eight bytes a call, so that a long text leaves calls for the rest: an object is good for 512. */
    static void feed(HeapEnds x, String text) {
        for (int i = 0; i < text.length(); i += 8) {
            int n = Math.min(8, text.length() - i);
            long w = 0;
            for (int k = 0; k < n; k++) {
                w = w << 8 | text.charAt(i + k);
            }
            x.feed(w, n);
        }
    }

    /** A new object with a market read from a text that has no fault. */
    static HeapEnds read(String text) {
        HeapEnds x = new HeapEnds();
        readInto(x, text);
        return x;
    }

    static void readInto(HeapEnds x, String text) {
        feed(x, text);
        int wares = x.market();
        if (wares < 0) {
            due("market() of " + text, wares, 0);
        }
    }

    /** A row of ints with these items. */
    static void tell(HeapEnds x, int row, int... items) {
        x.row(row, 2, items.length);
        for (int i = 0; i < items.length; i++) {
            x.set(row, i, items[i]);
        }
    }

    static void end(String test) {
        String held = sentences == 0 ? "" : sentences + " sentences, ";
        System.out.println(test + ": " + held + asked + " answers, " + wrong + " not as due");
        if (wrong != 0) {
            System.exit(1);
        }
    }
}
