/** Promises 9 to 15, 27, 28, 33, VALUE and ACTS: each sentence that tells of an edge, by itself. */
public final class ActEdgesTest {
    private static final int LEAST = Integer.MIN_VALUE;
    private static final int MOST = Integer.MAX_VALUE;
    private static final int[] NOT_0_OR_1 = {-1, 2, LEAST, MOST};

    public static void main(String[] args) {
        fruits();
        berries();
        melons();
        silks();
        cloths();
        rotten();
        twiceThat();
        takeGains();
        takeRefused();
        takePurse();
        takeTheLast();
        layNumbers();
        layBad();
        layState();
        layFull();
        dayBits();
        dayState();
        dayFull();
        dayOlder();
        mostActs();
        undoEach();
        undoHowMany();
        undoNone();
        ware();
        wareTaken();
        buyer();
        worth();
        images();
        imageRefused();
        restored();
        restoredMost();
        restoreRefused();
        counts();
        Due.end("ActEdgesTest");
    }

    /** VALUE of a ware of a sort for each pair of WORTH and AGE, and what comes out. */
    private static void dueValues(String sort, int[][] due) {
        for (int[] d : due) {
            String ware = "ware " + sort + " " + d[0] + " " + d[1] + ";";
            HeapEnds x = Due.read("law 0;buyer 0 0;" + ware);
            Due.due("VALUE of " + ware, x.ware(0, 2), d[2]);
            Due.due("whether ROTTEN: " + ware, x.ware(0, 5), d[2] == 0 ? 1 : 0);
            Due.due("twice that to a BUYER: " + ware, x.worth(0, 0), 2 * d[2]);
        }
    }

    private static void fruits() {
        Due.sentence("Terms, 2 VALUE", "of a fruit WORTH less AGE");
        dueValues("fruit", new int[][] {{30, 0, 30}, {30, 9, 21}, {5, 0, 5}, {5, 4, 1}, {9, 9, 0}});
        Due.sentence("Terms, 2 VALUE (a fruit)", "0 at least");
        dueValues("fruit", new int[][] {{5, 5, 0}, {5, 6, 0}, {0, 0, 0}, {0, 9, 0}});
    }

    private static void berries() {
        Due.sentence("Terms, 2 VALUE", "of a berry WORTH less twice AGE");
        dueValues("berry", new int[][] {{30, 0, 30}, {30, 9, 12}, {9, 4, 1}, {19, 9, 1}});
        Due.sentence("Terms, 2 VALUE (a berry)", "0 at least");
        dueValues("berry", new int[][] {{8, 4, 0}, {9, 5, 0}, {18, 9, 0}, {17, 9, 0}, {0, 0, 0}, {0, 9, 0}});
    }

    private static void melons() {
        Due.sentence("Terms, 2 VALUE", "of a melon WORTH and AGE up to AGE 5");
        dueValues("melon", new int[][] {{0, 0, 0}, {0, 1, 1}, {30, 0, 30}, {30, 4, 34}, {30, 5, 35}, {0, 5, 5}});
        Due.sentence("Terms, 2 VALUE", "behind that WORTH and 5, less 2 for each DAY that it is older than 5");
        dueValues("melon", new int[][] {{30, 6, 33}, {30, 7, 31}, {30, 9, 27}, {0, 6, 3}, {0, 7, 1}, {4, 9, 1}});
        Due.sentence("Terms, 2 VALUE (a melon)", "0 at least");
        dueValues("melon", new int[][] {{0, 8, 0}, {1, 8, 0}, {3, 9, 0}, {0, 9, 0}});
    }

    private static void silks() {
        Due.sentence("Terms, 2 VALUE", "of silk WORTH, and a third (cut) of AGE");
        dueValues("silk", new int[][] {{30, 0, 30}, {30, 9, 33}, {4, 2, 4}, {4, 3, 5}, {4, 8, 6}});
        Due.sentence("Terms", "All that is divided is cut towards 0");
        dueValues("silk", new int[][] {{0, 1, 0}, {0, 2, 0}, {0, 3, 1}, {0, 4, 1}, {0, 5, 1}, {0, 6, 2}, {0, 8, 2}, {0, 9, 3}});
    }

    private static void cloths() {
        Due.sentence("Terms, 2 VALUE", "of cloth WORTH");
        dueValues("cloth", new int[][] {{30, 0, 30}, {30, 9, 30}, {1, 9, 1}, {0, 0, 0}, {0, 9, 0}});
    }

    private static void rotten() {
        Due.sentence("Terms, 2 VALUE", "It is ROTTEN, if its VALUE is 0.");
        HeapEnds x = Due.read("law 0;buyer 0 0;ware fruit 1 0;ware silk 0 2;");
        Due.due("VALUE 1", x.ware(0, 5), 0);
        Due.due("VALUE 0", x.ware(1, 5), 1);
        x.day();
        Due.due("VALUE 0, a DAY on", x.ware(0, 5), 1);
        Due.due("VALUE 1, a DAY on", x.ware(1, 5), 0);
        for (int i = 0; i < 20; i++) {
            x.day();
        }
        Due.due("VALUE 0 yet", x.ware(0, 2), 0);
        Due.due("ROTTEN yet", x.ware(0, 5), 1);
    }

    private static void twiceThat() {
        Due.sentence("Terms, 2 VALUE", "To a BUYER it has twice that, if it is of the KIND that is his TASTE (see 4; also one that is such a KIND, too)");
        int[][] times = {{2, 2, 2, 2, 2}, {2, 2, 2, 1, 1}, {1, 2, 1, 1, 1}, {1, 1, 2, 1, 1}, {1, 1, 1, 2, 2}, {1, 1, 1, 1, 2}};
        for (int taste = 0; taste <= 5; taste++) {
            HeapEnds x = Due.read("law 0;buyer " + taste + " 0;ware fruit 7 0;ware melon 7 0;ware berry 7 0;ware cloth 7 0;"
                + "ware silk 7 0;");
            for (int ware = 0; ware < 5; ware++) {
                Due.due("TASTE " + taste + ", KIND " + (ware + 1), x.worth(ware, 0), 7 * times[taste][ware]);
            }
        }
    }

    private static void takeGains() {
        Due.sentence("Promise 9, take", "A BUYER takes the WARE at an end: what he GAINS.");
        HeapEnds x = Due.read("law 0;buyer 0 0;buyer 2 0;buyer 2 0;buyer 4 99;ware cloth 5 0;ware fruit 0 0;ware silk 6 0;");
        Due.due("the last BUYER, the left end: take(3, 0)", x.take(3, 0), 10);
        Due.due("the right end: take(3, 1)", x.take(3, 1), 12);
        Due.due("the first BUYER, nothing: take(0, 0)", x.take(0, 0), 0);
        Due.sentence("Terms, ACTS", "he PAYS its VALUE out of his PURSE, and GAINS the VALUE that it has to him");
        Due.due("buyer(3, 1)", x.buyer(3, 1), 99 - 5 - 6);
        Due.due("buyer(3, 2)", x.buyer(3, 2), 22);
        Due.due("buyer(3, 3)", x.buyer(3, 3), 2);
        Due.due("buyer(0, 1)", x.buyer(0, 1), 0);
        Due.due("buyer(0, 3)", x.buyer(0, 3), 1);
        Due.due("another's: buyer(1, 3)", x.buyer(1, 3), 0);
    }

    private static void takeRefused() {
        Due.sentence("Promise 9, take", "BAD;");
        for (int buyer : new int[] {-1, 2, 4, LEAST, MOST}) {
            Twins.dueBad("take(" + buyer + ", 0)", x -> x.take(buyer, 0));
        }
        for (int end : NOT_0_OR_1) {
            Twins.dueBad("take(0, " + end + ")", x -> x.take(0, end));
        }
        Twins.dueRefused(Twins::bare, "no MARKET: take(0, 0)", x -> x.take(0, 0), Due.BAD);
        Due.sentence("Promise 9, take", "STATE: THE HEAP is empty");
        Twins.Maker empty = () -> Due.read("law 0;buyer 0 9;");
        Twins.dueRefused(empty, "take(0, 0)", x -> x.take(0, 0), Due.STATE);
        Twins.dueRefused(empty, "take(0, 1)", x -> x.take(0, 1), Due.STATE);
        Due.sentence("Terms (take: BAD ahead of STATE)", "Refusals are answers, the first of these that fits");
        Twins.dueRefused(empty, "take(1, 0)", x -> x.take(1, 0), Due.BAD);
        Twins.dueRefused(empty, "take(0, 2)", x -> x.take(0, 2), Due.BAD);
        Twins.Maker poor = () -> Due.read("law 0;buyer 0 4;ware cloth 5 0;");
        Twins.dueRefused(poor, "take(0, -1)", x -> x.take(0, -1), Due.BAD);
    }

    private static void takePurse() {
        Due.sentence("Promise 9, take", "his PURSE is less than its VALUE");
        Twins.Maker x = () -> Due.read("law 0;buyer 0 5;buyer 1 4;buyer 1 0;ware cloth 5 0;ware silk 0 0;ware cloth 4 0;ware cloth 5 0;");
        Twins.dueRefused(x, "one less: take(1, 0)", y -> y.take(1, 0), Due.STATE);
        Twins.dueRefused(x, "one less: take(1, 1)", y -> y.take(1, 1), Due.STATE);
        Twins.dueRefused(x, "none: take(2, 0)", y -> y.take(2, 0), Due.STATE);
        HeapEnds y = x.make();
        Due.due("as much, though it is twice that to him: take(0, 0)", y.take(0, 0), 10);
        Due.due("buyer(0, 1)", y.buyer(0, 1), 0);
        Due.due("nothing left: take(0, 1)", y.take(0, 1), Due.STATE);
        Due.due("VALUE 0 of no PURSE: take(2, 0)", y.take(2, 0), 0);
        Due.due("no act of what was refused: count(5)", y.count(5), 2);
        Due.due("the end that he can pay: take(1, 0)", y.take(1, 0), 4);
        HeapEnds z = Due.read("law 0;buyer 1 30;ware silk 30 3;ware melon 28 5;ware cloth 30 0;");
        Due.due("VALUE, not WORTH: take(0, 0)", z.take(0, 0), Due.STATE);
        Due.due("take(0, 1)", z.take(0, 1), 30);
        Twins.Maker today = () -> Due.read("law 0;buyer 5 4;ware fruit 5 0;ware melon 4 0;");
        HeapEnds t = today.make();
        Due.due("VALUE of this DAY: take(0, 0)", t.take(0, 0), Due.STATE);
        Due.due("VALUE of this DAY: take(0, 1)", t.take(0, 1), 4);
        t = today.make();
        t.day();
        Due.due("a DAY on: take(0, 1)", t.take(0, 1), Due.STATE);
        Due.due("a DAY on: take(0, 0)", t.take(0, 0), 4);
    }

    private static void takeTheLast() {
        Due.sentence("Terms, ACTS", "a BUYER takes the WARE at an end of THE HEAP (0 left, 1 right)");
        for (int end = 0; end < 2; end++) {
            HeapEnds x = Due.read("law 0;buyer 0 99;ware cloth 1 0;ware cloth 2 0;ware cloth 3 0;");
            int[] order = end == 0 ? new int[] {0, 1, 2} : new int[] {2, 1, 0};
            for (int i = 0; i < 3; i++) {
                Due.due("ware(" + order[i] + ", 3)", x.ware(order[i], 3), end == 0 ? 0 : 2 - i);
                Due.due("take(0, " + end + ")", x.take(0, end), 2 * (order[i] + 1));
                Due.due("ware(" + order[i] + ", 3)", x.ware(order[i], 3), Due.NONE);
                Due.due("count(3)", x.count(3), 2 - i);
            }
            Due.due("take(0, " + end + ")", x.take(0, end), Due.STATE);
            Due.due("lay(5, 1, " + end + ")", x.lay(5, 1, end), 3);
            Due.due("at either end: take(0, " + (1 - end) + ")", x.take(0, 1 - end), 2);
        }
    }

    private static void layNumbers() {
        Due.sentence("Promise 10, lay", "A new WARE of a KIND (1 to 5) and a WORTH (0 to 30) is laid at an end: its number.");
        HeapEnds x = Due.read("law 0;");
        Due.due("the least: lay(1, 0, 0)", x.lay(1, 0, 0), 0);
        Due.due("the greatest: lay(5, 30, 1)", x.lay(5, 30, 1), 1);
        Due.due("lay(2, 29, 0)", x.lay(2, 29, 0), 2);
        Due.due("lay(3, 1, 1)", x.lay(3, 1, 1), 3);
        Due.due("lay(4, 7, 0)", x.lay(4, 7, 0), 4);
        int[][] due = {{1, 0, 2}, {5, 30, 3}, {2, 29, 1}, {3, 1, 4}, {4, 7, 0}};
        for (int ware = 0; ware < 5; ware++) {
            Due.due("kind(" + ware + ")", x.kind(ware), due[ware][0]);
            Due.due("ware(" + ware + ", 0)", x.ware(ware, 0), due[ware][1]);
            Due.due("ware(" + ware + ", 3)", x.ware(ware, 3), due[ware][2]);
            Due.due("ware(" + ware + ", 4)", x.ware(ware, 4), Due.NONE);
        }
        Due.sentence("Terms, ACTS", "a new WARE of AGE 0 is laid at an end");
        HeapEnds y = Twins.shop();
        y.day();
        Due.due("lay(2, 3, 0)", y.lay(2, 3, 0), 5);
        Due.due("ware(5, 1)", y.ware(5, 1), 0);
        Due.due("ware(5, 2)", y.ware(5, 2), 3);
        y.day();
        Due.due("ware(5, 1)", y.ware(5, 1), 1);
    }

    private static void layBad() {
        Due.sentence("Promise 10, lay", "BAD; STATE: no MARKET (ahead of BAD); FULL: 16 WARES.");
        for (int kind : new int[] {0, 6, -1, LEAST, MOST}) {
            Twins.dueBad("lay(" + kind + ", 1, 0)", x -> x.lay(kind, 1, 0));
        }
        for (int worth : new int[] {-1, 31, LEAST, MOST}) {
            Twins.dueBad("lay(1, " + worth + ", 0)", x -> x.lay(1, worth, 0));
        }
        for (int end : NOT_0_OR_1) {
            Twins.dueBad("lay(1, 1, " + end + ")", x -> x.lay(1, 1, end));
        }
    }

    private static void layState() {
        Due.sentence("Promise 10, lay", "STATE: no MARKET (ahead of BAD)");
        Twins.dueRefused(Twins::bare, "lay(1, 1, 0)", x -> x.lay(1, 1, 0), Due.STATE);
        Twins.dueRefused(Twins::bare, "lay(0, 1, 0)", x -> x.lay(0, 1, 0), Due.STATE);
        Twins.dueRefused(Twins::bare, "lay(1, 31, 0)", x -> x.lay(1, 31, 0), Due.STATE);
        Twins.dueRefused(Twins::bare, "lay(1, 1, 2)", x -> x.lay(1, 1, 2), Due.STATE);
    }

    /** 16 wares, five of them told and eleven laid, of which ware 0 is taken. */
    private static HeapEnds fullShop() {
        HeapEnds x = Due.read("law 0;buyer 0 99;" + "ware cloth 1 0;".repeat(5));
        x.take(0, 0);
        for (int ware = 5; ware < 16; ware++) {
            Due.due("lay " + ware, x.lay(1, 1, ware % 2), ware);
        }
        return x;
    }

    private static void layFull() {
        Due.sentence("Promise 10, lay", "FULL: 16 WARES.");
        Twins.dueRefused(ActEdgesTest::fullShop, "lay(1, 1, 0)", x -> x.lay(1, 1, 0), Due.FULL);
        Twins.dueRefused(ActEdgesTest::fullShop, "lay(5, 0, 1)", x -> x.lay(5, 0, 1), Due.FULL);
        Due.sentence("Terms (lay: BAD ahead of FULL)", "Refusals are answers, the first of these that fits");
        Twins.dueRefused(ActEdgesTest::fullShop, "lay(6, 1, 0)", x -> x.lay(6, 1, 0), Due.BAD);
        Twins.dueRefused(ActEdgesTest::fullShop, "lay(1, -1, 0)", x -> x.lay(1, -1, 0), Due.BAD);
        Twins.dueRefused(ActEdgesTest::fullShop, "lay(1, 1, 2)", x -> x.lay(1, 1, 2), Due.BAD);
        Due.sentence("Terms, ACTS", "(16 at most in all, of those that are taken, too; its number is the next one)");
        HeapEnds x = fullShop();
        Due.due("count(2)", x.count(2), 16);
        Due.due("count(3)", x.count(3), 15);
        for (int i = 0; i < 15; i++) {
            x.take(0, 0);
        }
        Due.due("none lies: count(3)", x.count(3), 0);
        Due.due("lay(1, 1, 0)", x.lay(1, 1, 0), Due.FULL);
        for (int i = 0; i < 16; i++) {
            x.undo();
        }
        Due.due("one lay is undone, too: lay(2, 1, 1)", x.lay(2, 1, 1), 15);
        Due.due("lay(2, 1, 1)", x.lay(2, 1, 1), Due.FULL);
    }

    private static void dayBits() {
        Due.sentence("Promise 11, day", "WARES (bits) that are ROTTEN behind it");
        HeapEnds x = Due.read("law 0;buyer 0 99;ware fruit 1 0;" + "ware cloth 1 0;".repeat(9));
        for (int ware = 10; ware < 16; ware++) {
            x.lay(ware == 15 ? 1 : 4, 1, 1);
        }
        Due.due("the lowest and the highest bit: day()", x.day(), 1 | 1 << 15);
        HeapEnds later = Due.read("law 0;ware fruit 2 0;ware berry 4 0;ware fruit 3 0;");
        Due.due("none of them yet: day()", later.day(), 0);
        Due.due("two of them: day()", later.day(), 1 | 2);
        Due.due("the last of them: day()", later.day(), 4);
        HeapEnds all = Due.read("law 0;" + "ware berry 2 0;".repeat(10));
        for (int ware = 10; ware < 16; ware++) {
            all.lay(1, 1, 0);
        }
        Due.due("all of them: day()", all.day(), 65535);
        Due.due("none of them: day()", all.day(), 0);
        Due.sentence("Promise 11, day", "of those that lie, and were not ahead of it");
        HeapEnds y = Due.read("law 0;buyer 0 99;ware fruit 1 0;ware fruit 0 0;ware fruit 1 0;ware silk 0 0;ware fruit 1 0;");
        y.take(0, 0);
        y.take(0, 1);
        Due.due("0 and 4 are taken, 1 and 3 were so: day()", y.day(), 1 << 2);
        Due.due("day()", y.day(), 0);
        Due.due("day()", y.day(), 0);
        Due.due("the silk is not any more: ware(3, 5)", y.ware(3, 5), 0);
        HeapEnds none = Due.read("law 0;");
        Due.due("nothing lies: day()", none.day(), 0);
    }

    private static void dayState() {
        Due.sentence("Promise 11, day", "STATE: no MARKET");
        Twins.dueRefused(Twins::bare, "day()", HeapEnds::day, Due.STATE);
        HeapEnds x = Due.read("law 0;");
        Due.due("the emptiest MARKET: day()", x.day(), 0);
    }

    /** No run of 512 calls gets there, what later calls answer is free: it is held all the same. */
    private static void dayFull() {
        Due.sentence("Promise 11, day", "FULL: it is DAY 999.");
        HeapEnds x = Due.read("law 0;buyer 0 99;ware silk 1 0;");
        for (int day = 1; day <= 999; day++) {
            x.day();
        }
        Due.due("count(4)", x.count(4), 999);
        Due.due("day()", x.day(), Due.FULL);
        Due.due("nothing changed: count(4)", x.count(4), 999);
        Due.due("ware(0, 1)", x.ware(0, 1), 999);
        Due.due("undo()", x.undo(), 23);
        Due.due("count(4)", x.count(4), 998);
        Due.due("day()", x.day(), 0);
        Due.due("day()", x.day(), Due.FULL);
    }

    private static void dayOlder() {
        Due.sentence("Terms, ACTS", "a DAY goes by: each WARE that lies is a DAY older");
        HeapEnds x = Twins.shop();
        x.day();
        int[] ages = {1, 2, 9, 4, 1};
        for (int ware = 0; ware < 5; ware++) {
            Due.due("ware(" + ware + ", 1)", x.ware(ware, 1), ages[ware]);
        }
        Due.due("count(4)", x.count(4), 2);
    }

    private static void mostActs() {
        Due.sentence("Terms, ACTS", "(24 at most are kept");
        HeapEnds x = Due.read("law 0;buyer 0 99;ware cloth 1 0;ware cloth 2 0;");
        for (int act = 1; act <= 30; act++) {
            if (act % 3 == 0 && act < 30) {
                x.lay(4, 1, act % 2);
            } else if (act % 3 == 1) {
                x.take(0, act % 2);
            } else {
                x.day();
            }
            Due.due("count(5) behind act " + act, x.count(5), Math.min(act, 24));
        }
        Due.sentence("Terms, ACTS", "of more the oldest is forgotten");
        for (int left = 23; left >= 0; left--) {
            Due.due("undo()", x.undo(), left);
            Due.due("count(5)", x.count(5), left);
        }
        Due.due("undo()", x.undo(), Due.STATE);
        Due.due("the six oldest stay: count(4)", x.count(4), 2);
        Due.due("count(2)", x.count(2), 4);
        Due.due("buyer(0, 3)", x.buyer(0, 3), 2);
        HeapEnds y = Due.read("law 0;buyer 0 99;ware cloth 1 0;");
        for (int act = 0; act < 25; act++) {
            y.day();
        }
        for (int act = 0; act < 24; act++) {
            y.undo();
        }
        Due.due("the oldest of 25: count(4)", y.count(4), 1);
        Due.due("undo()", y.undo(), Due.STATE);
        for (int act = 0; act < 24; act++) {
            y.day();
        }
        Due.due("24 again: count(5)", y.count(5), 24);
        Due.due("undo()", y.undo(), 23);
        y.take(0, 0);
        Due.due("count(5)", y.count(5), 24);
    }

    private static void dueUndone(String name, Twins.Call act) {
        HeapEnds one = Twins.shop();
        act.on(one);
        Due.due(name + ": count(5)", one.count(5), 4);
        Due.due(name + ", undo()", one.undo(), 3);
        Twins.dueAlike(name + ", undone", one, Twins.shop());
    }

    private static void undoEach() {
        Due.sentence("Promise 12, undo", "The latest ACT is undone");
        dueUndone("take(0, 0)", x -> x.take(0, 0));
        dueUndone("take(0, 1)", x -> x.take(0, 1));
        dueUndone("take(1, 1), all of a PURSE", x -> x.take(1, 1));
        dueUndone("lay(2, 30, 0)", x -> x.lay(2, 30, 0));
        dueUndone("lay(3, 0, 1)", x -> x.lay(3, 0, 1));
        dueUndone("day()", HeapEnds::day);
        Due.sentence("Terms, ACTS", "each can be undone, the latest first");
        HeapEnds x = Twins.shop();
        x.day();
        x.lay(1, 9, 0);
        x.take(0, 0);
        x.take(0, 1);
        for (int left = 6; left >= 3; left--) {
            Due.due("undo()", x.undo(), left);
        }
        Twins.dueAlike("four acts undone", x, Twins.shop());
        HeapEnds last = Due.read("law 0;buyer 0 9;ware cloth 1 0;");
        for (int end = 0; end < 2; end++) {
            last.take(0, end);
            Due.due("of the last WARE: undo()", last.undo(), 0);
            Due.due("ware(0, 3)", last.ware(0, 3), 0);
        }
        Due.sentence("Terms, ACTS", "also such by which nothing becomes another");
        HeapEnds none = Due.read("law 0;buyer 0 0;ware cloth 0 0;");
        none.take(0, 0);
        Due.due("nothing paid or gained: count(5)", none.count(5), 1);
        none.day();
        Due.due("nothing lies: count(5)", none.count(5), 2);
        Due.due("undo()", none.undo(), 1);
        Due.due("count(4)", none.count(4), 0);
        Due.due("undo()", none.undo(), 0);
        Due.due("ware(0, 4)", none.ware(0, 4), Due.NONE);
    }

    private static void undoHowMany() {
        Due.sentence("Promise 12, undo", "how many can be undone yet");
        HeapEnds x = Twins.shop();
        Due.due("undo()", x.undo(), 2);
        Due.due("undo()", x.undo(), 1);
        Due.due("undo()", x.undo(), 0);
    }

    private static void undoNone() {
        Due.sentence("Promise 12, undo", "STATE: none.");
        Twins.dueRefused(Twins::bare, "no MARKET: undo()", HeapEnds::undo, Due.STATE);
        Twins.dueRefused(() -> Due.read("law 0;ware silk 1 1;"), "a new MARKET: undo()", HeapEnds::undo, Due.STATE);
        Twins.Maker undone = () -> {
            HeapEnds x = Twins.shop();
            x.undo();
            x.undo();
            x.undo();
            return x;
        };
        Twins.dueRefused(undone, "all are undone: undo()", HeapEnds::undo, Due.STATE);
        Twins.Maker restored = () -> {
            HeapEnds x = Twins.shop();
            x.restore(1);
            return x;
        };
        Twins.dueRefused(restored, "restored: undo()", HeapEnds::undo, Due.STATE);
    }

    private static void ware() {
        Due.sentence("Promise 13, ware", "BAD.");
        for (int ware : new int[] {-1, 5, 16, LEAST, MOST}) {
            for (int what = 0; what <= 5; what++) {
                int w = what;
                Twins.dueBad("ware(" + ware + ", " + what + ")", x -> x.ware(ware, w));
            }
        }
        for (int what : new int[] {-1, 6, LEAST, MOST}) {
            Twins.dueBad("ware(0, " + what + ")", x -> x.ware(0, what));
        }
        Twins.dueRefused(Twins::bare, "no MARKET: ware(0, 0)", x -> x.ware(0, 0), Due.BAD);
        HeapEnds x = Twins.shop();
        Due.due("the last: ware(4, 0)", x.ware(4, 0), 9);
        x.undo();
        Due.due("what is undone is none: ware(4, 0)", x.ware(4, 0), Due.BAD);
        Due.sentence("Promise 13, ware", "0 WORTH, 1 AGE (as it was taken), 2 VALUE, 3 its place in THE HEAP, from the left");
        int[][] due = {{6, 1, 5, Due.NONE, 0, 0}, {5, 1, 5, 0, Due.NONE, 0}, {12, 8, 14, 1, Due.NONE, 0}, {9, 3, 3, 2, Due.NONE, 0}};
        for (int ware = 0; ware < 4; ware++) {
            for (int what = 0; what < 6; what++) {
                Due.due("ware(" + ware + ", " + what + ")", x.ware(ware, what), due[ware][what]);
            }
        }
    }

    private static void wareTaken() {
        Due.sentence("Promise 13, ware", "1 AGE (as it was taken)");
        HeapEnds x = Due.read("law 0;buyer 0 99;buyer 0 99;buyer 0 99;buyer 0 99;ware fruit 3 1;ware silk 0 2;");
        x.take(3, 1);
        x.take(0, 0);
        for (int i = 0; i < 5; i++) {
            x.day();
        }
        Due.due("ware(0, 1)", x.ware(0, 1), 1);
        Due.due("ware(1, 1)", x.ware(1, 1), 2);
        Due.due("VALUE then: ware(0, 2)", x.ware(0, 2), 2);
        Due.due("whether ROTTEN then: ware(0, 5)", x.ware(0, 5), 0);
        Due.due("whether ROTTEN then: ware(1, 5)", x.ware(1, 5), 1);
        Due.sentence("Promise 13, ware", "(NONE: it is taken), 4 who took it (NONE), 5 whether ROTTEN (1, 0)");
        Due.due("ware(0, 3)", x.ware(0, 3), Due.NONE);
        Due.due("the first BUYER: ware(0, 4)", x.ware(0, 4), 0);
        Due.due("the last BUYER: ware(1, 4)", x.ware(1, 4), 3);
        x.lay(1, 1, 0);
        Due.due("ware(2, 3)", x.ware(2, 3), 0);
        Due.due("ware(2, 4)", x.ware(2, 4), Due.NONE);
    }

    private static void buyer() {
        Due.sentence("Promise 14, buyer", "BAD.");
        for (int buyer : new int[] {-1, 2, 3, 4, LEAST, MOST}) {
            for (int what = 0; what <= 3; what++) {
                int w = what;
                Twins.dueBad("buyer(" + buyer + ", " + what + ")", x -> x.buyer(buyer, w));
            }
        }
        for (int what : new int[] {-1, 4, LEAST, MOST}) {
            Twins.dueBad("buyer(0, " + what + ")", x -> x.buyer(0, what));
        }
        Twins.dueRefused(Twins::bare, "no MARKET: buyer(0, 0)", x -> x.buyer(0, 0), Due.BAD);
        Due.sentence("Promise 14, buyer", "0 TASTE, 1 PURSE, 2 what he GAINED so far, 3 how many WARES he took");
        HeapEnds x = Twins.shop();
        int[][] due = {{1, 35, 10, 1}, {4, 9, 0, 0}};
        for (int buyer = 0; buyer < 2; buyer++) {
            for (int what = 0; what < 4; what++) {
                Due.due("buyer(" + buyer + ", " + what + ")", x.buyer(buyer, what), due[buyer][what]);
            }
        }
        Due.due("the last of four: buyer(3, 1)", Due.read("law 0;" + "buyer 5 7;".repeat(4)).buyer(3, 1), 7);
    }

    private static void worth() {
        Due.sentence("Promise 15, worth", "BAD.");
        for (int wrong : new int[] {-1, 5, 16, LEAST, MOST}) {
            Twins.dueBad("worth(" + wrong + ", 0)", x -> x.worth(wrong, 0));
        }
        for (int wrong : new int[] {-1, 2, 4, LEAST, MOST}) {
            Twins.dueBad("worth(0, " + wrong + ")", x -> x.worth(0, wrong));
        }
        Twins.dueRefused(Twins::bare, "no MARKET: worth(0, 0)", x -> x.worth(0, 0), Due.BAD);
        Due.sentence("Promise 15, worth", "VALUE of a WARE to a BUYER (of one that is taken, too)");
        HeapEnds x = Twins.shop();
        x.day();
        int[][] due = {{10, 5}, {5, 10}, {15, 30}, {2, 1}, {9, 18}};
        for (int ware = 0; ware < 5; ware++) {
            for (int buyer = 0; buyer < 2; buyer++) {
                Due.due("worth(" + ware + ", " + buyer + ")", x.worth(ware, buyer), due[ware][buyer]);
            }
        }
    }

    private static void images() {
        Due.sentence("Promise 27, image", "An IMAGE (0, 1) is kept of the MARKET: 1.");
        for (int k = 0; k < 2; k++) {
            int which = k;
            HeapEnds x = Twins.shop();
            Due.due("image(" + k + ")", x.image(k), 1);
            Due.due("ACTS can be undone yet: count(5)", x.count(5), 3);
            Due.due("status()", x.status(), 2);
            x.day();
            x.take(0, 0);
            Due.due("restore(" + k + ")", x.restore(k), 1);
            HeapEnds y = Twins.shop();
            y.image(which);
            y.restore(which);
            Twins.dueAlike("image(" + k + "), restored", x, y);
        }
        HeapEnds x = Due.read("law 0;");
        Due.due("of nothing at all: image(0)", x.image(0), 1);
        Due.due("restore(0)", x.restore(0), 1);
        Due.due("it is a MARKET: day()", x.day(), 0);
    }

    private static void imageRefused() {
        Due.sentence("Promise 27, image", "BAD; STATE: no MARKET.");
        for (int k : NOT_0_OR_1) {
            Twins.dueBad("image(" + k + ")", x -> x.image(k));
            Twins.dueRefused(Twins::bare, "BAD ahead of STATE: image(" + k + ")", x -> x.image(k), Due.BAD);
        }
        Twins.dueRefused(Twins::bare, "image(0)", x -> x.image(0), Due.STATE);
        Twins.dueRefused(Twins::bare, "image(1)", x -> x.image(1), Due.STATE);
    }

    private static void restored() {
        Due.sentence("Promise 28, restore", "The MARKET is as an IMAGE kept it (no ACT can be undone then): 1.");
        HeapEnds x = Due.read("law 1;buyer 1 20;buyer 4 30;ware cloth 3 0;ware cloth 9 0;ware fruit 4 0;ware cloth 2 0;");
        x.take(1, 1);
        x.day();
        x.image(0);
        int gain = x.best(0, 1, 0);
        Due.readInto(x, "law 0;buyer 5 1;buyer 5 2;buyer 5 3;" + "ware silk 1 1;".repeat(9));
        x.day();
        Due.due("restore(0)", x.restore(0), 1);
        int[] counts = {0, 2, 4, 3, 1, 0, 0};
        for (int what = 0; what <= 6; what++) {
            Due.due("count(" + what + ")", x.count(what), counts[what]);
        }
        int[][] buyers = {{1, 20, 0, 0}, {4, 28, 4, 1}};
        int[][] wares = {{3, 1, 3, 0, Due.NONE}, {9, 1, 9, 1, Due.NONE}, {4, 1, 3, 2, Due.NONE}, {2, 0, 2, Due.NONE, 1}};
        for (int buyer = 0; buyer < 2; buyer++) {
            for (int what = 0; what < 4; what++) {
                Due.due("buyer(" + buyer + ", " + what + ")", x.buyer(buyer, what), buyers[buyer][what]);
            }
        }
        for (int ware = 0; ware < 4; ware++) {
            for (int what = 0; what < 5; what++) {
                Due.due("ware(" + ware + ", " + what + ")", x.ware(ware, what), wares[ware][what]);
            }
        }
        Due.due("its law: best(0, 1, 0)", x.best(0, 1, 0), gain);
        Due.due("undo()", x.undo(), Due.STATE);
        x.take(0, 0);
        x.take(0, 0);
        Due.due("again: restore(0)", x.restore(0), 1);
        Due.due("count(3)", x.count(3), 3);
        Due.due("buyer(0, 1)", x.buyer(0, 1), 20);
        Due.due("count(5)", x.count(5), 0);
        x.day();
        Due.due("in place of the one before: image(0)", x.image(0), 1);
        x.day();
        x.restore(0);
        Due.due("count(4)", x.count(4), 2);
    }

    /** 16 wares that are unlike, in an order that is not that of their numbers, some of them taken. */
    private static HeapEnds unlike() {
        HeapEnds x = Due.read("law 1;buyer 0 200;buyer 5 200;buyer 4 9;buyer 1 200;" + "ware melon 9 4;".repeat(5));
        for (int ware = 5; ware < 16; ware++) {
            x.lay(1 + ware % 5, ware, ware % 3 == 0 ? 0 : 1);
        }
        x.day();
        for (int buyer = 0; buyer < 4; buyer++) {
            x.take(buyer, buyer % 2);
        }
        return x;
    }

    private static void restoredMost() {
        Due.sentence("Promise 28, restore (the most that a MARKET can be)", "The MARKET is as an IMAGE kept it");
        HeapEnds one = unlike();
        one.image(0);
        one.undo();
        one.undo();
        Due.readInto(one, "law 0;" + "ware berry 30 0;".repeat(10));
        for (int ware = 10; ware < 16; ware++) {
            one.lay(4, 30, 0);
        }
        Due.due("restore(0)", one.restore(0), 1);
        HeapEnds other = unlike();
        other.image(0);
        Due.due("restore(0)", other.restore(0), 1);
        Twins.dueAlike("restored", one, other);
        HeapEnds was = unlike();
        HeapEnds is = unlike();
        is.image(1);
        is.day();
        is.restore(1);
        for (int ware = 0; ware < 16; ware++) {
            for (int what = 0; what < 6; what++) {
                Due.due("ware(" + ware + ", " + what + ")", is.ware(ware, what), was.ware(ware, what));
            }
            Due.due("kind(" + ware + ")", is.kind(ware), was.kind(ware));
        }
        for (int buyer = 0; buyer < 4; buyer++) {
            for (int what = 0; what < 4; what++) {
                Due.due("buyer(" + buyer + ", " + what + ")", is.buyer(buyer, what), was.buyer(buyer, what));
            }
        }
    }

    private static void restoreRefused() {
        Due.sentence("Promise 28, restore", "BAD; STATE: none was kept.");
        for (int k : NOT_0_OR_1) {
            Twins.dueBad("restore(" + k + ")", x -> x.restore(k));
            Twins.dueRefused(Twins::bare, "BAD ahead of STATE: restore(" + k + ")", x -> x.restore(k), Due.BAD);
        }
        Twins.dueRefused(Twins::shop, "restore(0), where 1 was kept", x -> x.restore(0), Due.STATE);
        Twins.Maker zero = () -> {
            HeapEnds x = Due.read("law 0;ware silk 1 1;");
            x.day();
            x.image(0);
            return x;
        };
        Twins.dueRefused(zero, "restore(1), where 0 was kept", x -> x.restore(1), Due.STATE);
        Twins.dueRefused(Twins::bare, "restore(0)", x -> x.restore(0), Due.STATE);
        Twins.dueRefused(Twins::bare, "restore(1)", x -> x.restore(1), Due.STATE);
    }

    private static void counts() {
        Due.sentence("Promise 33, count", "BAD.");
        for (int what : new int[] {-1, 7, LEAST, MOST}) {
            Twins.dueBad("count(" + what + ")", x -> x.count(what));
        }
        Due.sentence("Promise 33, count", "0 ROWS, 1 BUYERS, 2 WARES in all, 3 that lie, 4 the DAY, 5 ACTS that can be undone, 6 bytes on the tape");
        HeapEnds x = Twins.shop();
        int[] due = {3, 2, 5, 4, 1, 3, 4};
        for (int what = 0; what <= 6; what++) {
            Due.due("count(" + what + ")", x.count(what), due[what]);
        }
        HeapEnds most = fullShop();
        Due.feed(most, " ".repeat(400));
        for (int row = 0; row < 8; row++) {
            most.row(row, 0, 0);
        }
        for (int day = 0; day < 20; day++) {
            most.day();
        }
        int[] all = {8, 1, 16, 15, 20, 24, 400};
        for (int what = 0; what <= 6; what++) {
            Due.due("the most: count(" + what + ")", most.count(what), all[what]);
        }
    }
}
