/** Promises 1 to 5 and 34, and "1 ROWS": each sentence that tells of an edge, by itself. */
public final class RowEdgesTest {
    private static final int LEAST = Integer.MIN_VALUE;
    private static final int MOST = Integer.MAX_VALUE;
    private static final int[] NO_ROWS = {-1, 8, LEAST, MOST};

    public static void main(String[] args) {
        missingAtFirst();
        noMarket();
        lanes();
        fewestAndMostItems();
        zeroAtFirst();
        inPlaceOfWhatIsThere();
        rowBad();
        rowSize();
        rowBadAheadOfSize();
        lowestBits();
        becomes();
        setBad();
        setFindings();
        copyAll();
        copyAsTheyWereAhead();
        copyBad();
        copyNull();
        copyStore();
        copyPlace();
        dropHowMany();
        dropRefused();
        findingsFirstInTime();
        statusAtFirst();
        statusOfEachCallWithARow();
        statusOfRefused();
        statusOfOtherCalls();
        Due.end("RowEdgesTest");
    }

    /** Items can't be asked for: a ware of cloth has the VALUE of the item, if it is the one that is heard. */
    private static void dueItem(HeapEnds x, int row, int i, int item) {
        Due.readInto(x, "law 0;buyer 1 0;ware cloth " + item + " 0;");
        Due.due("item " + i + " of row " + row + " is " + item, x.heard(0, row, i, 1, 0), 1);
    }

    private static void missingAtFirst() {
        Due.sentence("Terms, 1 ROWS", "ROWS 0 .. 7 are missing (at first)");
        HeapEnds x = new HeapEnds();
        Due.due("count(0)", x.count(0), 0);
        for (int row = 0; row < 8; row++) {
            Due.due("set(" + row + ", 0, 0)", x.set(row, 0, 0), Due.NULL);
            Due.due("row(" + row + ", 0, 0)", x.row(row, 0, 0), 0);
            Due.due("count(0)", x.count(0), row + 1);
        }
    }

    private static void noMarket() {
        Due.sentence("Promise 1, a new object", "No MARKET.");
        HeapEnds x = new HeapEnds();
        for (int what = 0; what <= 6; what++) {
            Due.due("count(" + what + ")", x.count(what), 0);
        }
        Due.due("day()", x.day(), Due.STATE);
        Due.due("image(0)", x.image(0), Due.STATE);
        Due.due("ware(0, 0)", x.ware(0, 0), Due.BAD);
        Due.due("buyer(0, 0)", x.buyer(0, 0), Due.BAD);
        Due.sentence("Promise 1, a new object (and nothing else yet)", "No MARKET.");
        Due.due("fault()", x.fault(), 0);
        Due.due("trace(0)", x.trace(0), Due.NONE);
        Due.due("status()", x.status(), 0);
    }

    private static void lanes() {
        Due.sentence("Terms, 1 ROWS", "have a LANE (0 bytes, 1 shorts, 2 ints)");
        HeapEnds x = new HeapEnds();
        int[] kept = {0x78, 0x5678, 0x12345678};
        for (int lane = 0; lane < 3; lane++) {
            Due.due("row(0, " + lane + ", 1)", x.row(0, lane, 1), 1);
            Due.due("set(0, 0, 0x12345678)", x.set(0, 0, 0x12345678), kept[lane]);
        }
    }

    private static void fewestAndMostItems() {
        Due.sentence("Terms, 1 ROWS", "and 0 to 40 ITEMS");
        HeapEnds x = new HeapEnds();
        Due.due("row(0, 0, 0)", x.row(0, 0, 0), 0);
        Due.due("it is there: count(0)", x.count(0), 1);
        Due.due("set(0, 0, 1)", x.set(0, 0, 1), Due.PLACE);
        Due.due("row(7, 2, 40)", x.row(7, 2, 40), 40);
        Due.due("set(7, 39, 9)", x.set(7, 39, 9), 9);
        Due.due("set(7, 40, 9)", x.set(7, 40, 9), Due.PLACE);
        dueItem(x, 7, 39, 9);
    }

    private static void zeroAtFirst() {
        Due.sentence("Terms, 1 ROWS", "0 at first");
        HeapEnds x = new HeapEnds();
        for (int lane = 0; lane < 3; lane++) {
            x.row(lane, lane, 40);
            dueItem(x, lane, 0, 0);
            dueItem(x, lane, 39, 0);
        }
        x.set(1, 0, 5);
        x.set(1, 39, 5);
        x.row(1, 1, 40);
        dueItem(x, 1, 0, 0);
        dueItem(x, 1, 39, 0);
        x.set(1, 39, 5);
        x.drop(1);
        x.row(1, 1, 40);
        dueItem(x, 1, 39, 0);
    }

    private static void inPlaceOfWhatIsThere() {
        Due.sentence("Promise 2, row", "A ROW of a LANE with n ITEMS, in place of what is there: n.");
        HeapEnds x = new HeapEnds();
        x.row(3, 0, 5);
        Due.due("fewer: row(3, 1, 2)", x.row(3, 1, 2), 2);
        Due.due("set(3, 1, 1)", x.set(3, 1, 1), 1);
        Due.due("set(3, 2, 1)", x.set(3, 2, 1), Due.PLACE);
        Due.due("of another LANE: set(3, 0, 300)", x.set(3, 0, 300), 300);
        Due.due("more: row(3, 1, 3)", x.row(3, 1, 3), 3);
        Due.due("set(3, 2, 1)", x.set(3, 2, 1), 1);
        Due.due("none: row(3, 1, 0)", x.row(3, 1, 0), 0);
        Due.due("one ROW: count(0)", x.count(0), 1);
        Due.due("drop(3)", x.drop(3), 0);
    }

    private static void rowBad() {
        Due.sentence("Promise 2, row", "BAD: ROW, LANE, n above 40");
        for (int row : NO_ROWS) {
            Twins.dueBad("row(" + row + ", 0, 1)", x -> x.row(row, 0, 1));
        }
        for (int lane : new int[] {-1, 3, LEAST, MOST}) {
            Twins.dueBad("row(0, " + lane + ", 1)", x -> x.row(0, lane, 1));
        }
        for (int n : new int[] {41, MOST}) {
            Twins.dueBad("row(0, 0, " + n + ")", x -> x.row(0, 0, n));
        }
        HeapEnds x = new HeapEnds();
        Due.due("row(0, 0, 40)", x.row(0, 0, 40), 40);
        Due.due("row(7, 2, 0)", x.row(7, 2, 0), 0);
    }

    private static void rowSize() {
        Due.sentence("Promise 2, row", "SIZE");
        Twins.dueFound("row(0, 0, -1)", x -> x.row(0, 0, -1), Due.SIZE);
        Twins.dueFound("row(2, 2, LEAST)", x -> x.row(2, 2, LEAST), Due.SIZE);
        Twins.dueFound("of one that is missing: row(5, 1, -1)", x -> x.row(5, 1, -1), Due.SIZE);
    }

    private static void rowBadAheadOfSize() {
        Due.sentence("Terms (row: BAD ahead of SIZE)", "Refusals are answers, the first of these that fits");
        Twins.dueBad("row(8, 0, -1)", x -> x.row(8, 0, -1));
        Twins.dueBad("row(0, 3, -1)", x -> x.row(0, 3, -1));
        Twins.dueBad("row(0, -1, -1)", x -> x.row(0, -1, -1));
    }

    private static void lowestBits() {
        Due.sentence("Promise 3, set", "its lowest bits, as many as the LANE has (read with their sign)");
        HeapEnds x = new HeapEnds();
        int[][] due = {
            {0, 127, 127}, {0, 128, -128}, {0, 255, -1}, {0, 256, 0}, {0, -128, -128}, {0, -129, 127}, {0, MOST, -1}, {0, LEAST, 0},
            {1, 32767, 32767}, {1, 32768, -32768}, {1, 65535, -1}, {1, 65536, 0}, {1, -32768, -32768}, {1, -32769, 32767},
            {1, MOST, -1}, {1, LEAST, 0}, {1, 128, 128},
            {2, MOST, MOST}, {2, LEAST, LEAST}, {2, -1, -1}, {2, 65536, 65536},
        };
        for (int[] d : due) {
            x.row(0, d[0], 1);
            Due.due("set(0, 0, " + d[1] + ") of LANE " + d[0], x.set(0, 0, d[1]), d[2]);
        }
        Due.sentence("Promise 3, set", "what it is then");
        x.row(0, 0, 2);
        x.set(0, 1, 256 + 30);
        dueItem(x, 0, 1, 30);
        x.set(0, 1, 3);
        dueItem(x, 0, 1, 3);
        dueItem(x, 0, 0, 0);
        x.row(1, 2, 1);
        Due.due("set(1, 0, NONE)", x.set(1, 0, Due.NONE), Due.NONE);
        Due.due("set(1, 0, BAD)", x.set(1, 0, Due.BAD), Due.BAD);
        Due.due("set(1, 0, PLACE)", x.set(1, 0, Due.PLACE), Due.PLACE);
        Due.due("that is no FINDING: status()", x.status(), 0);
    }

    private static void becomes() {
        Due.sentence("Promise 3, set", "ITEM i becomes v");
        HeapEnds x = new HeapEnds();
        x.row(0, 0, 40);
        Due.due("set(0, 0, 8)", x.set(0, 0, 8), 8);
        Due.due("set(0, 39, 9)", x.set(0, 39, 9), 9);
        dueItem(x, 0, 0, 8);
        dueItem(x, 0, 1, 0);
        dueItem(x, 0, 38, 0);
        dueItem(x, 0, 39, 9);
        Due.due("again: set(0, 39, 0)", x.set(0, 39, 0), 0);
        dueItem(x, 0, 39, 0);
        dueItem(x, 0, 0, 8);
    }

    private static void setBad() {
        Due.sentence("Promise 3, set", "BAD: ROW");
        for (int row : NO_ROWS) {
            Twins.dueBad("set(" + row + ", 0, 1)", x -> x.set(row, 0, 1));
        }
        Due.sentence("Terms (set: BAD ahead of NULL, PLACE)", "Refusals are answers, the first of these that fits");
        Twins.dueBad("set(8, -1, 1)", x -> x.set(8, -1, 1));
    }

    private static void setFindings() {
        Due.sentence("Promise 3, set", "NULL");
        Twins.dueFound("set(3, 0, 1)", x -> x.set(3, 0, 1), Due.NULL);
        Twins.dueFound("set(7, 0, 1)", x -> x.set(7, 0, 1), Due.NULL);
        Due.sentence("Promise 3, set", "PLACE");
        Twins.dueFound("set(0, -1, 9)", x -> x.set(0, -1, 9), Due.PLACE);
        Twins.dueFound("set(0, 3, 9)", x -> x.set(0, 3, 9), Due.PLACE);
        Twins.dueFound("set(0, MOST, 9)", x -> x.set(0, MOST, 9), Due.PLACE);
        Twins.dueFound("set(0, LEAST, 9)", x -> x.set(0, LEAST, 9), Due.PLACE);
        Twins.dueFound("of none: set(2, 0, 9)", x -> x.set(2, 0, 9), Due.PLACE);
        HeapEnds x = Twins.shop();
        Due.due("the first: set(0, 0, 9)", x.set(0, 0, 9), 9);
        Due.due("the last: set(0, 2, 8)", x.set(0, 2, 8), 8);
    }

    private static void copyAll() {
        Due.sentence("Promise 4, copy", "n ITEMS of a from i on come to b from j on");
        HeapEnds x = new HeapEnds();
        for (int lane = 0; lane < 3; lane++) {
            x.row(0, lane, 40);
            x.row(1, lane, 40);
            x.set(0, 0, 7);
            x.set(0, 39, 8);
            Due.due("copy(0, 0, 1, 0, 40)", x.copy(0, 0, 1, 0, 40), 40);
            dueItem(x, 1, 0, 7);
            dueItem(x, 1, 39, 8);
            dueItem(x, 0, 39, 8);
            Due.due("copy(0, 39, 1, 0, 1)", x.copy(0, 39, 1, 0, 1), 1);
            dueItem(x, 1, 0, 8);
            dueItem(x, 1, 1, 0);
        }
        Due.sentence("Promise 4, copy (n is 0)", "n ITEMS of a from i on come to b from j on");
        Due.due("copy(0, 40, 1, 40, 0)", x.copy(0, 40, 1, 40, 0), 0);
        Due.due("copy(0, 0, 1, 40, 0)", x.copy(0, 0, 1, 40, 0), 0);
        Due.due("copy(0, 40, 1, 0, 0)", x.copy(0, 40, 1, 0, 0), 0);
        dueItem(x, 1, 0, 8);
        x.row(2, 2, 0);
        Due.due("copy(2, 0, 2, 0, 0)", x.copy(2, 0, 2, 0, 0), 0);
    }

    private static void copyAsTheyWereAhead() {
        Due.sentence("Promise 4, copy", "as they were ahead");
        HeapEnds x = new HeapEnds();
        Due.tell(x, 0, 1, 2, 3, 4, 5);
        Due.due("copy(0, 0, 0, 1, 4)", x.copy(0, 0, 0, 1, 4), 4);
        dueItem(x, 0, 0, 1);
        dueItem(x, 0, 1, 1);
        dueItem(x, 0, 2, 2);
        dueItem(x, 0, 4, 4);
        Due.tell(x, 0, 1, 2, 3, 4, 5);
        Due.due("copy(0, 1, 0, 0, 4)", x.copy(0, 1, 0, 0, 4), 4);
        dueItem(x, 0, 0, 2);
        dueItem(x, 0, 3, 5);
        dueItem(x, 0, 4, 5);
        Due.due("onto themselves: copy(0, 0, 0, 0, 5)", x.copy(0, 0, 0, 0, 5), 5);
        dueItem(x, 0, 0, 2);
    }

    private static void copyBad() {
        Due.sentence("Promise 4, copy", "BAD: ROWS");
        for (int row : NO_ROWS) {
            Twins.dueBad("copy(" + row + ", 0, 0, 0, 1)", x -> x.copy(row, 0, 0, 0, 1));
            Twins.dueBad("copy(0, 0, " + row + ", 0, 1)", x -> x.copy(0, 0, row, 0, 1));
        }
        Due.sentence("Terms (copy: BAD ahead of NULL, STORE, PLACE)", "Refusals are answers, the first of these that fits");
        Twins.dueBad("copy(3, 0, 8, 0, 1)", x -> x.copy(3, 0, 8, 0, 1));
        Twins.dueBad("copy(8, 0, 3, 0, 1)", x -> x.copy(8, 0, 3, 0, 1));
        Twins.dueBad("copy(0, -1, 8, -1, -1)", x -> x.copy(0, -1, 8, -1, -1));
    }

    private static void copyNull() {
        Due.sentence("Promise 4, copy", "NULL");
        Twins.dueFound("copy(3, 0, 0, 0, 1)", x -> x.copy(3, 0, 0, 0, 1), Due.NULL);
        Twins.dueFound("copy(0, 0, 3, 0, 1)", x -> x.copy(0, 0, 3, 0, 1), Due.NULL);
        Twins.dueFound("copy(7, 0, 7, 0, 0)", x -> x.copy(7, 0, 7, 0, 0), Due.NULL);
    }

    private static void copyStore() {
        Due.sentence("Promise 4, copy (ROWS of two LANES)", "STORE");
        Twins.dueFound("copy(0, 0, 1, 0, 1)", x -> x.copy(0, 0, 1, 0, 1), Due.STORE);
        Twins.dueFound("copy(1, 0, 0, 0, 1)", x -> x.copy(1, 0, 0, 0, 1), Due.STORE);
        Twins.dueFound("copy(1, 0, 2, 0, 0)", x -> x.copy(1, 0, 2, 0, 0), Due.STORE);
        Twins.dueFound("copy(2, 0, 0, 0, 0)", x -> x.copy(2, 0, 0, 0, 0), Due.STORE);
    }

    private static void copyPlace() {
        Due.sentence("Promise 4, copy", "PLACE (i, j, n below 0, or beyond an end)");
        int[][] wrong = {
            {-1, 0, 1}, {0, -1, 1}, {0, 0, -1}, {1, 1, -1}, {LEAST, 0, 1}, {0, LEAST, 1}, {0, 0, LEAST},
            {3, 0, 1}, {0, 3, 1}, {0, 0, 4}, {1, 0, 3}, {0, 1, 3}, {4, 0, 0}, {0, 4, 0}, {-1, 0, 0}, {0, -1, 0},
            {MOST, 0, 1}, {0, MOST, 1}, {0, 0, MOST}, {1, 0, MOST}, {MOST, MOST, MOST}, {2, 2, LEAST},
        };
        for (int[] w : wrong) {
            String call = "copy(0, " + w[0] + ", 0, " + w[1] + ", " + w[2] + ")";
            Twins.dueFound(call, x -> x.copy(0, w[0], 0, w[1], w[2]), Due.PLACE);
        }
        HeapEnds x = new HeapEnds();
        x.row(0, 2, 3);
        x.row(1, 2, 5);
        Due.due("beyond the end of a alone: copy(0, 0, 1, 0, 4)", x.copy(0, 0, 1, 0, 4), Due.PLACE);
        Due.due("beyond the end of b alone: copy(1, 0, 0, 0, 4)", x.copy(1, 0, 0, 0, 4), Due.PLACE);
        Due.due("up to the ends: copy(1, 2, 0, 0, 3)", x.copy(1, 2, 0, 0, 3), 3);
        Due.due("up to the ends: copy(0, 0, 1, 2, 3)", x.copy(0, 0, 1, 2, 3), 3);
        Due.due("one more: copy(0, 0, 1, 3, 3)", x.copy(0, 0, 1, 3, 3), Due.PLACE);
    }

    private static void dropHowMany() {
        Due.sentence("Promise 5, drop", "A ROW is missing from now on: how many ITEMS it had.");
        HeapEnds x = new HeapEnds();
        int[] sizes = {0, 1, 40};
        for (int n : sizes) {
            x.row(7, 1, n);
            Due.due("drop(7) of " + n, x.drop(7), n);
            Due.due("count(0)", x.count(0), 0);
            Due.due("set(7, 0, 0)", x.set(7, 0, 0), Due.NULL);
            Due.due("drop(7) again", x.drop(7), Due.NULL);
        }
    }

    private static void dropRefused() {
        Due.sentence("Promise 5, drop", "BAD; NULL.");
        for (int row : NO_ROWS) {
            Twins.dueBad("drop(" + row + ")", x -> x.drop(row));
        }
        Twins.dueFound("drop(3)", x -> x.drop(3), Due.NULL);
        Twins.dueFound("drop(7)", x -> x.drop(7), Due.NULL);
    }

    private static void findingsFirstInTime() {
        Due.sentence("Terms", "then FINDINGS, of several the first in time");
        Twins.dueFound("NULL ahead of PLACE: set(3, -1, 0)", x -> x.set(3, -1, 0), Due.NULL);
        Twins.dueFound("NULL ahead of PLACE: copy(3, 0, 0, 9, 1)", x -> x.copy(3, 0, 0, 9, 1), Due.NULL);
        Twins.dueFound("NULL ahead of PLACE: copy(0, 9, 3, 0, 1)", x -> x.copy(0, 9, 3, 0, 1), Due.NULL);
        Twins.dueFound("NULL ahead of PLACE: copy(3, 0, 3, 0, -1)", x -> x.copy(3, 0, 3, 0, -1), Due.NULL);
        Twins.dueFound("STORE ahead of PLACE: copy(0, 9, 1, 0, 1)", x -> x.copy(0, 9, 1, 0, 1), Due.STORE);
        Twins.dueFound("STORE ahead of PLACE: copy(0, 0, 1, 9, 1)", x -> x.copy(0, 0, 1, 9, 1), Due.STORE);
        Twins.dueFound("STORE ahead of PLACE: copy(1, 0, 0, 0, -1)", x -> x.copy(1, 0, 0, 0, -1), Due.STORE);
    }

    private static void statusAtFirst() {
        Due.sentence("Promise 34, status", "0: it had none, or there was none.");
        HeapEnds x = new HeapEnds();
        Due.due("at first", x.status(), 0);
        x.row(0, 0, 41);
        x.line(0, 0, 1, 0);
        x.as(0, 0);
        Due.due("behind refusals alone", x.status(), 0);
        x.row(0, 0, 1);
        Due.due("behind one that had none", x.status(), 0);
    }

    private static void dueStatusZero(String name, Twins.Call call) {
        HeapEnds x = Twins.shop();
        Due.due("ahead of " + name, x.status(), 2);
        int answer = call.on(x);
        Due.due(name + " is well", answer >= 0 || answer == Due.NONE ? 1 : 0, 1);
        Due.due("status() behind " + name, x.status(), 0);
    }

    private static void statusOfEachCallWithARow() {
        Due.sentence("Promise 34, status (each call with a ROW)", "0: it had none");
        dueStatusZero("row(0, 0, 0)", x -> x.row(0, 0, 0));
        dueStatusZero("set(0, 0, 0)", x -> x.set(0, 0, 0));
        dueStatusZero("copy(0, 0, 0, 0, 0)", x -> x.copy(0, 0, 0, 0, 0));
        dueStatusZero("drop(0)", x -> x.drop(0));
        dueStatusZero("line(1, 0, 1, -1)", x -> x.line(1, 0, 1, -1));
        dueStatusZero("judge(0, 0, 1)", x -> x.judge(0, 0, 1));
        dueStatusZero("judge(0, 2, 1)", x -> x.judge(0, 2, 1));
        dueStatusZero("heard(0, 0, 0, 1, 0)", x -> x.heard(0, 0, 0, 1, 0));
        dueStatusZero("heard(0, 0, 0, 1, 1)", x -> x.heard(0, 0, 0, 1, 1));
        dueStatusZero("as(0, 0)", x -> x.as(0, 0));
        Due.sentence("Promise 34, status", "the number of its FINDING");
        Twins.dueFound("1 NULL: line(3, 0, 1, -1)", x -> x.line(3, 0, 1, -1), Due.NULL);
        Twins.dueFound("1 NULL: judge(3, 0, 1)", x -> x.judge(3, 0, 1), Due.NULL);
        Twins.dueFound("1 NULL: heard(0, 3, 0, 1, 0)", x -> x.heard(0, 3, 0, 1, 0), Due.NULL);
        Twins.dueFound("2 PLACE: line(0, 3, 1, -1)", x -> x.line(0, 3, 1, -1), Due.PLACE);
        Twins.dueFound("2 PLACE: judge(0, 3, 1)", x -> x.judge(0, 3, 1), Due.PLACE);
        Twins.dueFound("2 PLACE: heard(0, 0, 3, 1, 0)", x -> x.heard(0, 0, 3, 1, 0), Due.PLACE);
        Twins.dueFound("3 KIND: as(0, 5)", x -> x.as(0, 5), Due.KIND);
        Twins.dueFound("4 SIZE: row(0, 0, -1)", x -> x.row(0, 0, -1), Due.SIZE);
        Twins.dueFound("5 STORE: copy(0, 0, 1, 0, 0)", x -> x.copy(0, 0, 1, 0, 0), Due.STORE);
    }

    private static void statusOfRefused() {
        Due.sentence("Promise 34, status", "that was not BAD, STATE, FULL");
        Twins.dueBad("line(0, 0, 0, -1)", x -> x.line(0, 0, 0, -1));
        Twins.dueBad("then BAD: line(0, 0, 2, -1)", x -> x.line(0, 0, 2, -1));
        Twins.dueBad("judge(0, 0, 0)", x -> x.judge(0, 0, 0));
        Twins.dueBad("then BAD: judge(1, 1, 1)", x -> x.judge(1, 1, 1));
        Twins.dueBad("heard(0, 0, 0, 0, 0)", x -> x.heard(0, 0, 0, 0, 0));
        Twins.dueBad("as(9, 0)", x -> x.as(9, 0));
        Twins.dueRefused(Twins::bare, "line(0, 0, 1, -1)", x -> x.line(0, 0, 1, -1), Due.STATE);
        Twins.dueRefused(Twins::bare, "judge(0, 0, 1)", x -> x.judge(0, 0, 1), Due.STATE);
    }

    private static void statusOfOtherCalls() {
        Due.sentence("Promise 34, status (no other call)", "Of the latest call with a ROW, or as()");
        HeapEnds x = Twins.shop();
        Twins.Call[] others = {
            y -> y.feed(0, 1), HeapEnds::market, HeapEnds::fault, y -> y.take(0, 0), y -> y.lay(1, 1, 1), HeapEnds::day,
            HeapEnds::undo, y -> y.ware(0, 0), y -> y.buyer(0, 0), y -> y.worth(0, 0), y -> y.best(0, 1, 0),
            y -> y.passBy(0, 1), y -> y.laid(0, 1, -1), y -> y.ring(0, 1, 0), y -> y.rots(1, 0), y -> y.reach(3, 0),
            y -> y.harvest(0, -1), y -> y.apart(0, 1, 1), y -> y.image(0), y -> y.restore(0), y -> y.kind(0),
            y -> y.ask(0, 0), y -> y.trace(0), y -> y.count(0), HeapEnds::status,
        };
        for (int i = 0; i < others.length; i++) {
            others[i].on(x);
            Due.due("behind the call numbered " + i, x.status(), 2);
        }
    }
}
