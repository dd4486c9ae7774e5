/** Promises 20 to 26: each sentence that tells of an edge, by itself. */
public final class ForetoldEdgesTest {
    private static final int LEAST = Integer.MIN_VALUE;
    private static final int MOST = Integer.MAX_VALUE;
    private static final int[] NO_ROWS = {-1, 8, LEAST, MOST};
    private static final int[] NO_BUYERS = {-1, 2, 4, LEAST, MOST};
    private static final int[] NOT_0_OR_1 = {-1, 2, LEAST, MOST};
    /** Where i and n are beyond row 0 of the shop, which has three items. */
    private static final int[][] NO_PLACES = {{-1, 1}, {3, 1}, {4, 1}, {0, 4}, {1, 3}, {2, 2}, {0, 10}, {LEAST, 1}, {MOST, 1}, {MOST, 10}};

    public static void main(String[] args) {
        lineCounts();
        lineOneAfterAnother();
        lineLeftOfLikeOnes();
        lineToday();
        lineBehindTheLast();
        lineBad();
        lineState();
        lineFindings();
        lineThenBad();
        rotsDays();
        rotsBits();
        rotsAtNeitherEnd();
        rotsBad();
        rotsState();
        reachFewest();
        reachLeast();
        reachBoth();
        reachRefused();
        harvestOfLittle();
        harvestEnds();
        harvestFirstOfSeveral();
        harvestADayEach();
        harvestRefused();
        judgeNone();
        judgeNoDay();
        judgeAtNeitherEnd();
        judgeTakenOrTold();
        judgeBad();
        judgeState();
        judgeFindings();
        judgeThenBad();
        heardWays();
        heardUnlike();
        heardInAll();
        heardValues();
        heardBad();
        heardFindings();
        apartEdges();
        apartEitherEnd();
        apartBad();
        nothingChanges();
        foretoldAnew();
        Due.end("ForetoldEdgesTest");
    }

    /** 16 wares in the order of their numbers, ten of them told and six laid at the right. */
    private static HeapEnds sixteen(String buyers, int kind, int worth) {
        String[] sorts = {"", "fruit", "melon", "berry", "cloth", "silk"};
        HeapEnds x = Due.read("law 0;" + buyers + ("ware " + sorts[kind] + " " + worth + " 0;").repeat(10));
        for (int ware = 10; ware < 16; ware++) {
            x.lay(kind, worth, 1);
        }
        return x;
    }

    private static void dueLine(HeapEnds x, int i, int n, int lie, int... gains) {
        String call = "line(0, " + i + ", " + n + ", ";
        Due.due(call + "-1)", x.line(0, i, n, -1), lie);
        for (int who = 0; who < gains.length; who++) {
            Due.due(call + who + ")", x.line(0, i, n, who), gains[who]);
        }
    }

    private static void lineCounts() {
        Due.sentence("Promise 20, line", "LINE by n ITEMS (1 to 40) of a ROW from i on: how many WARES lie then (who = -1), what a BUYER GAINS in it.");
        HeapEnds x = sixteen("buyer 4 0;buyer 1 0;buyer 1 0;buyer 1 0;", 4, 1);
        x.row(0, 0, 40);
        x.set(0, 0, 3);
        x.set(0, 39, 3);
        dueLine(x, 0, 1, 15, 0, 0, 0, 1);
        dueLine(x, 1, 1, 15, 2, 0, 0, 0);
        dueLine(x, 39, 1, 15, 0, 0, 0, 1);
        dueLine(x, 0, 15, 1, 28, 0, 0, 1);
        dueLine(x, 0, 16, 0, 30, 0, 0, 1);
        dueLine(x, 0, 40, 0, 30, 0, 0, 1);
        dueLine(x, 38, 2, 14, 2, 0, 0, 1);
    }

    private static void lineOneAfterAnother() {
        Due.sentence("Terms, 3 FORETOLD", "LINE: a row of BUYERS, one after another");
        HeapEnds x = Due.read("law 0;buyer 1 0;buyer 4 0;ware cloth 9 0;ware cloth 5 0;ware fruit 7 0;");
        Due.tell(x, 0, 0, 1, 1, 0, 1);
        // To 0 it is 9 5 14, to 1 it is 18 10 7.
        dueLine(x, 0, 3, 0, 14, 28);
        dueLine(x, 1, 3, 0, 14, 28);
        dueLine(x, 2, 3, 0, 14, 28);
        dueLine(x, 3, 2, 1, 14, 18);
        dueLine(x, 1, 2, 1, 0, 28);
    }

    private static void lineLeftOfLikeOnes() {
        Due.sentence("Terms, 3 FORETOLD", "each takes the end whose VALUE to him is greater (of like ones the left)");
        HeapEnds x = Due.read("law 0;buyer 1 0;buyer 4 0;ware cloth 4 0;ware cloth 9 0;ware cloth 1 0;ware fruit 2 0;");
        Due.tell(x, 0, 0, 1, 0, 0);
        // To 0 both ends are 4; behind the left one 1 has 18, behind the right one he would have 8.
        dueLine(x, 0, 2, 2, 4, 18);
        HeapEnds one = Due.read("law 0;buyer 1 0;buyer 4 0;ware cloth 4 0;ware cloth 9 0;ware cloth 1 0;ware cloth 5 0;");
        Due.tell(one, 0, 0, 0);
        // One more at the right: 5, then of 4 and 1 the 4.
        dueLine(one, 0, 2, 2, 5 + 4, 0);
        HeapEnds none = Due.read("law 0;buyer 1 0;ware cloth 0 0;ware cloth 7 0;ware fruit 0 0;");
        Due.tell(none, 0, 0, 0);
        dueLine(none, 0, 2, 1, 7);
    }

    private static void lineToday() {
        Due.sentence("Terms, 3 FORETOLD (LINE)", "no DAY goes by but where told");
        // 5 and 5, of which a DAY on the fruit would be 4; 4 and 5, of which a DAY on the melon would be 5.
        HeapEnds left = Due.read("law 0;buyer 5 0;buyer 0 0;ware fruit 5 0;ware cloth 5 0;");
        HeapEnds right = Due.read("law 0;buyer 5 0;buyer 0 0;ware cloth 5 0;ware fruit 5 0;");
        HeapEnds melon = Due.read("law 0;buyer 5 0;buyer 0 0;ware melon 4 0;ware cloth 5 0;");
        Due.tell(left, 0, 0, 1);
        Due.tell(right, 0, 0, 1);
        Due.tell(melon, 0, 0, 1);
        dueLine(left, 0, 2, 0, 5, 10);
        dueLine(right, 0, 2, 0, 5, 10);
        dueLine(melon, 0, 2, 0, 5, 8);
    }

    private static void lineBehindTheLast() {
        Due.sentence("Terms, 3 FORETOLD", "behind the last WARE nobody takes");
        HeapEnds x = Due.read("law 0;buyer 1 0;buyer 4 0;ware cloth 4 0;ware cloth 9 0;");
        Due.tell(x, 0, 0, 1, 0, 1, 0, 1);
        dueLine(x, 0, 1, 1, 9, 0);
        dueLine(x, 0, 2, 0, 9, 8);
        dueLine(x, 0, 3, 0, 9, 8);
        dueLine(x, 0, 6, 0, 9, 8);
        HeapEnds none = Due.read("law 0;buyer 1 0;");
        Due.tell(none, 0, 0, 0);
        dueLine(none, 0, 1, 0, 0);
        dueLine(none, 0, 2, 0, 0);
    }

    private static void lineBad() {
        Due.sentence("Promise 20, line", "BAD: ROW, n, who");
        for (int row : NO_ROWS) {
            Twins.dueBad("line(" + row + ", 0, 1, -1)", x -> x.line(row, 0, 1, -1));
        }
        for (int n : new int[] {0, -1, 41, LEAST, MOST}) {
            Twins.dueBad("line(0, 0, " + n + ", -1)", x -> x.line(0, 0, n, -1));
        }
        for (int who : new int[] {-2, 2, 4, LEAST, MOST}) {
            Twins.dueBad("line(0, 0, 1, " + who + ")", x -> x.line(0, 0, 1, who));
        }
        Due.sentence("Terms (line: BAD ahead of NULL, PLACE)", "Refusals are answers, the first of these that fits");
        Twins.dueBad("line(3, 0, 0, -1)", x -> x.line(3, 0, 0, -1));
        Twins.dueBad("line(3, 0, 1, 2)", x -> x.line(3, 0, 1, 2));
        Twins.dueBad("line(0, -1, 41, -1)", x -> x.line(0, -1, 41, -1));
        Twins.dueBad("line(0, 3, 1, -2)", x -> x.line(0, 3, 1, -2));
    }

    private static void lineState() {
        Due.sentence("Promise 20, line", "STATE: no MARKET (ahead of BAD)");
        Twins.dueRefused(Twins::bare, "line(0, 0, 1, -1)", x -> x.line(0, 0, 1, -1), Due.STATE);
        Twins.dueRefused(Twins::bare, "line(8, 0, 1, -1)", x -> x.line(8, 0, 1, -1), Due.STATE);
        Twins.dueRefused(Twins::bare, "line(0, 0, 0, -1)", x -> x.line(0, 0, 0, -1), Due.STATE);
        Twins.dueRefused(Twins::bare, "line(0, 0, 1, -2)", x -> x.line(0, 0, 1, -2), Due.STATE);
    }

    private static void lineFindings() {
        Due.sentence("Promise 20, line", "NULL; PLACE;");
        Twins.dueFound("line(3, 0, 1, -1)", x -> x.line(3, 0, 1, -1), Due.NULL);
        Twins.dueFound("NULL ahead of PLACE: line(3, -1, 40, 1)", x -> x.line(3, -1, 40, 1), Due.NULL);
        for (int[] p : NO_PLACES) {
            Twins.dueFound("line(0, " + p[0] + ", " + p[1] + ", -1)", x -> x.line(0, p[0], p[1], -1), Due.PLACE);
        }
        Twins.dueFound("of none: line(2, 0, 1, -1)", x -> x.line(2, 0, 1, -1), Due.PLACE);
    }

    private static void lineThenBad() {
        Due.sentence("Promise 20, line", "then BAD: an ITEM that is no BUYER");
        Twins.dueBad("the second of two: line(0, 0, 2, -1)", x -> x.line(0, 0, 2, -1));
        Twins.dueBad("the first of two: line(0, 1, 2, 0)", x -> x.line(0, 1, 2, 0));
        Twins.dueBad("line(1, 0, 2, 0)", x -> x.line(1, 0, 2, 0));
        Twins.dueFound("PLACE ahead of it: line(0, 1, 3, -1)", x -> x.line(0, 1, 3, -1), Due.PLACE);
        for (int item : new int[] {-1, 2, 3, LEAST, MOST}) {
            Twins.Maker told = () -> {
                HeapEnds x = Twins.shop();
                Due.tell(x, 0, 0, 1, item);
                return x;
            };
            Twins.dueRefused(told, "line(0, 0, 3, -1), where item 2 is " + item, x -> x.line(0, 0, 3, -1), Due.BAD);
            Due.due("those ahead of it: line(0, 0, 2, -1)", told.make().line(0, 0, 2, -1), 2);
        }
        HeapEnds x = Due.read("law 0;buyer 0 0;ware cloth 1 0;");
        Due.tell(x, 0, 0, 0, 1);
        Due.due("where nothing lies any more: line(0, 0, 3, -1)", x.line(0, 0, 3, -1), Due.BAD);
        HeapEnds none = Due.read("law 0;ware cloth 1 0;");
        none.row(0, 0, 1);
        Due.due("there is no BUYER: line(0, 0, 1, -1)", none.line(0, 0, 1, -1), Due.BAD);
        Due.due("there is no BUYER: line(0, 0, 1, 0)", none.line(0, 0, 1, 0), Due.BAD);
    }

    /** Of one ware that lies: the last day on which it is not rotten yet, and the day behind it. */
    private static void dueRotsFrom(String ware, int days) {
        HeapEnds x = Due.read("law 0;ware " + ware + ";");
        Due.due("rots(" + (days - 1) + ", 0) of " + ware, x.rots(days - 1, 0), 0);
        Due.due("rots(" + days + ", 0) of " + ware, x.rots(days, 0), 1);
        Due.due("rots(99, 1) of " + ware, x.rots(99, 1), 1);
    }

    private static void rotsDays() {
        Due.sentence("Terms, 3 FORETOLD", "ROTS: what will be ROTTEN when so many DAYS more are gone");
        dueRotsFrom("fruit 30 0", 30);
        dueRotsFrom("fruit 30 9", 21);
        dueRotsFrom("fruit 1 0", 1);
        dueRotsFrom("berry 30 0", 15);
        dueRotsFrom("berry 29 0", 15);
        dueRotsFrom("berry 29 9", 6);
        dueRotsFrom("melon 30 0", 23);
        dueRotsFrom("melon 29 5", 17);
        HeapEnds x = Due.read("law 0;ware silk 0 0;ware cloth 0 0;ware melon 0 0;");
        Due.due("not any more: rots(2, 1)", x.rots(2, 1), 1 | 2);
        Due.due("not any more: rots(3, 1)", x.rots(3, 1), 2);
        Due.due("now: rots(0, 1)", x.rots(0, 1), 1 | 2 | 4);
        Due.due("in 99: rots(99, 1)", x.rots(99, 1), 2 | 4);
        x.day();
        Due.due("from the next DAY on: rots(2, 1)", x.rots(2, 1), 2);
    }

    private static void rotsBits() {
        Due.sentence("Promise 21, rots", "how many of the WARES that lie (what = 0), which (1, bits)");
        HeapEnds x = sixteen("buyer 0 99;", 3, 2);
        Due.due("rots(0, 0)", x.rots(0, 0), 0);
        Due.due("rots(0, 1)", x.rots(0, 1), 0);
        Due.due("rots(1, 0)", x.rots(1, 0), 16);
        Due.due("rots(1, 1)", x.rots(1, 1), 65535);
        Due.due("rots(99, 1)", x.rots(99, 1), 65535);
        x.take(0, 0);
        x.take(0, 1);
        Due.due("without those taken: rots(1, 0)", x.rots(1, 0), 14);
        Due.due("without those taken: rots(1, 1)", x.rots(1, 1), 0x7ffe);
    }

    private static void rotsAtNeitherEnd() {
        Due.sentence("Promise 21, rots", "those of them that are at neither end (2, bits)");
        HeapEnds x = sixteen("buyer 0 99;", 3, 2);
        Due.due("none yet: rots(0, 2)", x.rots(0, 2), 0);
        Due.due("rots(1, 2)", x.rots(1, 2), 0x7ffe);
        for (int ware = 0; ware < 13; ware++) {
            x.take(0, 0);
        }
        Due.due("three: rots(1, 2)", x.rots(1, 2), 1 << 14);
        x.take(0, 1);
        Due.due("two: rots(1, 2)", x.rots(1, 2), 0);
        Due.due("two: rots(1, 1)", x.rots(1, 1), 1 << 13 | 1 << 14);
        x.take(0, 1);
        Due.due("one: rots(1, 2)", x.rots(1, 2), 0);
        Due.due("one: rots(1, 1)", x.rots(1, 1), 1 << 13);
        x.take(0, 1);
        for (int what = 0; what < 3; what++) {
            Due.due("none: rots(99, " + what + ")", x.rots(99, what), 0);
        }
    }

    private static void rotsBad() {
        Due.sentence("Promise 21, rots", "ROTS in n DAYS (0 to 99)");
        for (int n : new int[] {-1, 100, LEAST, MOST}) {
            Twins.dueBad("rots(" + n + ", 0)", x -> x.rots(n, 0));
        }
        Due.due("rots(0, 0)", Twins.shop().rots(0, 0), 0);
        Due.due("rots(99, 0)", Twins.shop().rots(99, 0), 1);
        Due.sentence("Promise 21, rots", "BAD; STATE: no MARKET (ahead of BAD).");
        for (int what : new int[] {-1, 3, LEAST, MOST}) {
            Twins.dueBad("rots(0, " + what + ")", x -> x.rots(0, what));
        }
    }

    private static void rotsState() {
        Due.sentence("Promise 21, rots", "STATE: no MARKET (ahead of BAD)");
        Twins.dueRefused(Twins::bare, "rots(0, 0)", x -> x.rots(0, 0), Due.STATE);
        Twins.dueRefused(Twins::bare, "rots(-1, 0)", x -> x.rots(-1, 0), Due.STATE);
        Twins.dueRefused(Twins::bare, "rots(0, 3)", x -> x.rots(0, 3), Due.STATE);
        HeapEnds x = Due.read("law 0;");
        Due.due("the emptiest MARKET: rots(0, 0)", x.rots(0, 0), 0);
    }

    private static void dueReach(HeapEnds x, int ware, int fewest, int least) {
        Due.due("reach(" + ware + ", 0)", x.reach(ware, 0), fewest);
        Due.due("reach(" + ware + ", 1)", x.reach(ware, 1), least);
    }

    private static void reachFewest() {
        Due.sentence("Terms, 3 FORETOLD", "the fewest WARES to be taken till it is, itself, too");
        HeapEnds x = sixteen("buyer 0 99;", 4, 1);
        for (int ware = 0; ware < 16; ware++) {
            int ahead = Math.min(ware, 15 - ware);
            dueReach(x, ware, ahead + 1, ahead);
        }
        for (int ware = 0; ware < 13; ware++) {
            x.take(0, 0);
        }
        dueReach(x, 14, 2, 1);
        x.take(0, 0);
        dueReach(x, 14, 1, 0);
        dueReach(x, 15, 1, 0);
        x.take(0, 0);
        dueReach(x, 15, 1, 0);
    }

    private static void reachLeast() {
        Due.sentence("Terms, 3 FORETOLD", "the least VALUE, added, of those taken ahead of it (all to its left, or all to its right)");
        HeapEnds x = Due.read("law 0;buyer 0 0;ware fruit 1 1;ware fruit 9 9;ware cloth 9 0;ware silk 5 3;ware cloth 30 0;ware cloth 2 0;");
        // 0 0 9 6 30 2
        dueReach(x, 0, 1, 0);
        dueReach(x, 1, 2, 0);
        dueReach(x, 2, 3, 0);
        dueReach(x, 3, 3, 9);
        dueReach(x, 4, 2, 2);
        dueReach(x, 5, 1, 0);
        x.day();
        dueReach(x, 2, 3, 0);
        Due.due("VALUES of that DAY: reach(3, 1)", x.reach(3, 1), 9);
        HeapEnds y = Due.read("law 0;buyer 0 0;ware melon 1 4;ware cloth 3 0;ware berry 9 1;");
        // 5 3 7, a DAY on 6 3 5
        dueReach(y, 1, 2, 5);
        y.day();
        dueReach(y, 1, 2, 5);
        y.day();
        dueReach(y, 1, 2, 3);
        Due.sentence("Terms, 3 FORETOLD", "REACH of a WARE that lies");
        HeapEnds z = Due.read("law 0;buyer 0 99;ware cloth 9 0;ware cloth 5 0;ware cloth 1 0;ware cloth 7 0;");
        dueReach(z, 2, 2, 7);
        z.take(0, 0);
        dueReach(z, 2, 2, 5);
        z.lay(4, 1, 0);
        dueReach(z, 2, 2, 6);
    }

    private static void reachBoth() {
        Due.sentence("Promise 22, reach", "how many (what = 0), the least VALUE ahead (1)");
        // The fewest are at the right, the least at the left.
        HeapEnds x = Due.read("law 0;ware cloth 1 0;ware cloth 2 0;ware cloth 9 0;ware cloth 30 0;");
        dueReach(x, 2, 2, 3);
        HeapEnds one = Due.read("law 0;ware cloth 9 0;");
        dueReach(one, 0, 1, 0);
    }

    private static void reachRefused() {
        Due.sentence("Promise 22, reach", "BAD; STATE: it is taken.");
        for (int ware : new int[] {-1, 5, 16, LEAST, MOST}) {
            Twins.dueBad("reach(" + ware + ", 0)", x -> x.reach(ware, 0));
        }
        for (int what : NOT_0_OR_1) {
            Twins.dueBad("reach(1, " + what + ")", x -> x.reach(1, what));
            Twins.dueBad("BAD ahead of STATE: reach(0, " + what + ")", x -> x.reach(0, what));
        }
        Twins.dueRefused(Twins::bare, "no MARKET: reach(0, 0)", x -> x.reach(0, 0), Due.BAD);
        Twins.dueRefused(Twins::shop, "reach(0, 0)", x -> x.reach(0, 0), Due.STATE);
        Twins.dueRefused(Twins::shop, "reach(0, 1)", x -> x.reach(0, 1), Due.STATE);
    }

    private static void dueHarvest(HeapEnds x, int gain, int... ends) {
        Due.due("harvest(0, -1)", x.harvest(0, -1), gain);
        for (int k = 0; k < ends.length; k++) {
            Due.due("harvest(0, " + k + ")", x.harvest(0, k), ends[k]);
        }
        Due.due("harvest(0, " + ends.length + ")", x.harvest(0, ends.length), Due.NONE);
    }

    private static void harvestOfLittle() {
        Due.sentence("Promise 23, harvest", "what he GAINS (k = -1), the end of the k-th take; NONE: not so many.");
        HeapEnds x = Due.read("law 0;buyer 4 99;ware cloth 3 0;ware fruit 3 0;");
        dueHarvest(x, 3 + 6, 1, 0);
        Due.due("harvest(0, 3)", x.harvest(0, 3), Due.NONE);
        Due.due("harvest(0, MOST)", x.harvest(0, MOST), Due.NONE);
        x.take(0, 0);
        dueHarvest(x, 3, 0);
        x.take(0, 0);
        dueHarvest(x, 0);
        Due.due("harvest(0, MOST)", x.harvest(0, MOST), Due.NONE);
    }

    private static void harvestEnds() {
        Due.sentence("Terms, 3 FORETOLD", "of the last WARE alone it is 0");
        HeapEnds x = Due.read("law 0;buyer 5 0;ware cloth 1 0;" + "ware berry 30 0;".repeat(9));
        for (int ware = 10; ware < 16; ware++) {
            x.lay(3, 30, 1);
        }
        // Berries of 30, 28, .. 2 from the right, and the cloth at last.
        dueHarvest(x, 240 + 1, 1, 1, 1, 1, 1, 1, 1, 1, 1, 1, 1, 1, 1, 1, 1, 0);
        dueHarvest(Due.read("law 0;buyer 5 0;ware cloth 1 0;ware berry 9 0;"), 10, 1, 0);
        dueHarvest(Due.read("law 0;buyer 5 0;ware berry 9 0;ware cloth 1 0;"), 10, 0, 0);
    }

    private static void harvestFirstOfSeveral() {
        Due.sentence("Terms, 3 FORETOLD", "the first row of ends (0, 1) of several");
        dueHarvest(sixteen("buyer 5 0;", 4, 1), 16, 0, 0, 0, 0, 0, 0, 0, 0, 0, 0, 0, 0, 0, 0, 0, 0);
        // 2 2: left and right, or right and left; the fruit at the right is to go first or second.
        dueHarvest(Due.read("law 0;buyer 5 0;ware fruit 2 0;ware cloth 4 0;ware fruit 2 0;"), 2 + 1 + 4, 0, 1, 0);
        dueHarvest(Due.read("law 0;buyer 5 0;ware fruit 1 0;ware cloth 4 0;ware fruit 1 0;"), 1 + 4, 0, 0, 0);
    }

    private static void harvestADayEach() {
        Due.sentence("Terms, 3 FORETOLD", "HARVEST of a BUYER: he takes one WARE, then a DAY goes by, and so on till all are taken: the most that he GAINS in all");
        // The first take is of this DAY, the last of three n - 1 behind it.
        dueHarvest(Due.read("law 0;buyer 5 0;ware fruit 5 1;"), 4, 0);
        dueHarvest(Due.read("law 0;buyer 1 0;ware fruit 5 0;ware fruit 5 0;ware fruit 5 0;"), 10 + 8 + 6, 0, 0, 0);
        dueHarvest(Due.read("law 0;buyer 4 0;ware silk 0 0;ware cloth 1 0;ware cloth 1 0;ware cloth 1 0;"), 2 + 2 + 2 + 2, 1, 1, 1, 0);
        HeapEnds x = Due.read("law 0;buyer 2 0;ware melon 5 5;ware melon 5 4;ware melon 5 3;");
        // 10 8 6 at AGE 5 6 7; 9 10 8; 8 9 10: left first, then the next, then the last; twice that.
        dueHarvest(x, 20 + 20 + 20, 0, 0, 0);
        Due.due("no DAY goes by: count(4)", x.count(4), 0);
        x.day();
        Due.due("from the next DAY on: harvest(0, -1)", x.harvest(0, -1), 16 + 16 + 16);
    }

    private static void harvestRefused() {
        Due.sentence("Promise 23, harvest", "BAD: BUYER, k below -1.");
        for (int buyer : NO_BUYERS) {
            Twins.dueBad("harvest(" + buyer + ", -1)", x -> x.harvest(buyer, -1));
            Twins.dueBad("harvest(" + buyer + ", 99)", x -> x.harvest(buyer, 99));
        }
        for (int k : new int[] {-2, LEAST}) {
            Twins.dueBad("harvest(0, " + k + ")", x -> x.harvest(0, k));
        }
        Twins.dueRefused(Twins::bare, "no MARKET: harvest(0, -1)", x -> x.harvest(0, -1), Due.BAD);
    }

    private static void judgeNone() {
        Due.sentence("Promise 24, judge", "JUDGE of n WARES (1 to 16), ITEMS of a ROW from i on; NONE.");
        HeapEnds x = sixteen("", 4, 1);
        x.row(0, 0, 40);
        for (int k = 0; k < 16; k++) {
            x.set(0, k, k % 2 == 0 ? k / 2 : 15 - k / 2);
            x.set(0, 24 + k, 15 - k);
        }
        Due.due("one: judge(0, 0, 1)", x.judge(0, 0, 1), Due.NONE);
        Due.due("all: judge(0, 0, 16)", x.judge(0, 0, 16), Due.NONE);
        Due.due("up to the end: judge(0, 24, 16)", x.judge(0, 24, 16), Due.NONE);
        Due.due("the last: judge(0, 39, 1)", x.judge(0, 39, 1), Due.NONE);
        Due.due("status()", x.status(), 0);
        x.set(0, 15, 0);
        Due.due("the last of them: judge(0, 0, 16)", x.judge(0, 0, 16), 15);
        Due.due("all but that: judge(0, 0, 15)", x.judge(0, 0, 15), Due.NONE);
    }

    private static void judgeNoDay() {
        Due.sentence("Terms, 3 FORETOLD", "JUDGE: a row tells WARES as taken one after another from now on, no DAY between");
        HeapEnds x = Due.read("law 0;buyer 0 0;ware fruit 9 0;ware cloth 0 0;ware fruit 9 0;");
        Due.tell(x, 0, 2, 0, 1);
        Due.due("nobody tells who pays: judge(0, 0, 3)", x.judge(0, 0, 3), Due.NONE);
        Due.due("count(4)", x.count(4), 0);
        x.day();
        Due.due("on another DAY: judge(0, 0, 3)", x.judge(0, 0, 3), Due.NONE);
    }

    private static void judgeAtNeitherEnd() {
        Due.sentence("Terms, 3 FORETOLD", "the first that cannot be (at neither end then");
        HeapEnds x = Due.read("law 0;" + "ware cloth 1 0;".repeat(4));
        Due.tell(x, 0, 3, 1, 0, 2, 1, 2);
        Due.due("judge(0, 1, 1)", x.judge(0, 1, 1), 0);
        Due.due("judge(0, 0, 2)", x.judge(0, 0, 2), 1);
        Due.due("its end is laid open: judge(0, 2, 2)", x.judge(0, 2, 2), 1);
        Due.due("none of them but the first counts: judge(0, 0, 6)", x.judge(0, 0, 6), 1);
        Due.due("judge(0, 3, 3)", x.judge(0, 3, 3), 0);
        Due.sentence("Terms, 3 FORETOLD (from i on, not in the ROW)", "its place in what is told");
        Due.tell(x, 0, 9, 9, 0, 3, 1, 1, 2);
        Due.due("judge(0, 2, 3)", x.judge(0, 2, 3), Due.NONE);
        Due.due("judge(0, 2, 4)", x.judge(0, 2, 4), 3);
        Due.due("judge(0, 3, 3)", x.judge(0, 3, 3), 1);
    }

    private static void judgeTakenOrTold() {
        Due.sentence("Terms, 3 FORETOLD", "taken, or told, before");
        HeapEnds x = Due.read("law 0;buyer 0 99;" + "ware cloth 1 0;".repeat(3));
        Due.tell(x, 0, 0, 0, 1, 2, 2, 1);
        Due.due("told: judge(0, 0, 2)", x.judge(0, 0, 2), 1);
        Due.due("told, the last that lay: judge(0, 1, 4)", x.judge(0, 1, 4), 3);
        Due.due("nothing lies any more: judge(0, 1, 5)", x.judge(0, 1, 5), 3);
        x.take(0, 0);
        Due.due("taken: judge(0, 0, 1)", x.judge(0, 0, 1), 0);
        Due.due("taken: judge(0, 0, 3)", x.judge(0, 0, 3), 0);
        Due.due("those that lie: judge(0, 2, 2)", x.judge(0, 2, 2), Due.NONE);
        x.take(0, 0);
        x.take(0, 0);
        Due.due("an empty heap: judge(0, 3, 1)", x.judge(0, 3, 1), 0);
        x.lay(1, 1, 0);
        Due.tell(x, 0, 3);
        Due.due("one laid: judge(0, 0, 1)", x.judge(0, 0, 1), Due.NONE);
    }

    private static void judgeBad() {
        Due.sentence("Promise 24, judge", "BAD: ROW, n");
        for (int row : NO_ROWS) {
            Twins.dueBad("judge(" + row + ", 0, 1)", x -> x.judge(row, 0, 1));
        }
        for (int n : new int[] {0, -1, 17, LEAST, MOST}) {
            Twins.dueBad("judge(0, 0, " + n + ")", x -> x.judge(0, 0, n));
        }
        Due.sentence("Terms (judge: BAD ahead of NULL, PLACE)", "Refusals are answers, the first of these that fits");
        Twins.dueBad("judge(3, 0, 0)", x -> x.judge(3, 0, 0));
        Twins.dueBad("judge(3, -1, 17)", x -> x.judge(3, -1, 17));
        Twins.dueBad("judge(0, -1, 17)", x -> x.judge(0, -1, 17));
    }

    private static void judgeState() {
        Due.sentence("Promise 24, judge", "STATE: no MARKET (ahead of BAD)");
        Twins.dueRefused(Twins::bare, "judge(0, 0, 1)", x -> x.judge(0, 0, 1), Due.STATE);
        Twins.dueRefused(Twins::bare, "judge(8, 0, 1)", x -> x.judge(8, 0, 1), Due.STATE);
        Twins.dueRefused(Twins::bare, "judge(0, 0, 0)", x -> x.judge(0, 0, 0), Due.STATE);
        Twins.dueRefused(Twins::bare, "judge(0, 0, 17)", x -> x.judge(0, 0, 17), Due.STATE);
    }

    private static void judgeFindings() {
        Due.sentence("Promise 24, judge", "NULL; PLACE;");
        Twins.dueFound("judge(3, 0, 1)", x -> x.judge(3, 0, 1), Due.NULL);
        Twins.dueFound("NULL ahead of PLACE: judge(3, -1, 16)", x -> x.judge(3, -1, 16), Due.NULL);
        for (int[] p : NO_PLACES) {
            Twins.dueFound("judge(0, " + p[0] + ", " + p[1] + ")", x -> x.judge(0, p[0], p[1]), Due.PLACE);
        }
        Twins.dueFound("of none: judge(2, 0, 1)", x -> x.judge(2, 0, 1), Due.PLACE);
        HeapEnds x = Twins.shop();
        Due.due("up to the end: judge(0, 0, 3)", x.judge(0, 0, 3), 2);
    }

    private static void judgeThenBad() {
        Due.sentence("Promise 24, judge", "then BAD: an ITEM that is no WARE");
        for (int item : new int[] {-1, 5, 16, LEAST, MOST}) {
            Twins.Maker told = () -> {
                HeapEnds x = Twins.shop();
                Due.tell(x, 0, 1, 0, item);
                return x;
            };
            Twins.dueRefused(told, "judge(0, 0, 3), where item 2 is " + item, x -> x.judge(0, 0, 3), Due.BAD);
            Twins.dueRefused(told, "judge(0, 2, 1), where item 2 is " + item, x -> x.judge(0, 2, 1), Due.BAD);
            Twins.dueRefused(told, "PLACE ahead of it: judge(0, 2, 2)", x -> x.judge(0, 2, 2), Due.PLACE);
            Due.due("those ahead of it: judge(0, 0, 2)", told.make().judge(0, 0, 2), 1);
        }
        HeapEnds none = Due.read("law 0;");
        none.row(0, 0, 1);
        Due.due("there is no WARE: judge(0, 0, 1)", none.judge(0, 0, 1), Due.BAD);
    }

    private static void dueHeard(HeapEnds x, int i, int n, int ways, int sure) {
        Due.due("heard(0, 0, " + i + ", " + n + ", 0)", x.heard(0, 0, i, n, 0), ways);
        Due.due("heard(0, 0, " + i + ", " + n + ", 1)", x.heard(0, 0, i, n, 1), sure);
        Due.due("status()", x.status(), 0);
    }

    private static void heardWays() {
        Due.sentence("Promise 25, heard", "HEARD of n VALUES (1 to 10), ITEMS of a ROW from i on: how many ways (what = 0)");
        HeapEnds x = sixteen("buyer 5 99;", 4, 7);
        x.row(0, 1, 40);
        for (int i = 0; i < 40; i++) {
            x.set(0, i, 7);
        }
        for (int n = 1; n <= 10; n++) {
            dueHeard(x, 0, n, 1 << n, 0);
        }
        dueHeard(x, 30, 10, 1024, 0);
        dueHeard(x, 39, 1, 2, 0);
        for (int ware = 0; ware < 5; ware++) {
            x.take(0, 0);
        }
        dueHeard(x, 0, 10, 1024, 0);
        x.take(0, 0);
        dueHeard(x, 0, 9, 512, 0);
        dueHeard(x, 0, 10, 512, 0xffc0);
        x.take(0, 0);
        dueHeard(x, 0, 10, 0, Due.NONE);
    }

    private static void heardUnlike() {
        Due.sentence("Terms, 3 FORETOLD", "in how many ways that can be (ways are unlike, if some WARE is not taken at the same time in both)");
        HeapEnds x = Due.read("law 0;buyer 5 0;ware cloth 4 0;");
        Due.tell(x, 0, 4, 4, 4);
        dueHeard(x, 0, 1, 1, 1);
        dueHeard(x, 0, 2, 0, Due.NONE);
        HeapEnds two = Due.read("law 0;buyer 5 0;ware cloth 4 0;ware cloth 4 0;");
        Due.tell(two, 0, 4, 4, 4);
        dueHeard(two, 0, 1, 2, 0);
        dueHeard(two, 0, 2, 2, 3);
        dueHeard(two, 0, 3, 0, Due.NONE);
        HeapEnds three = Due.read("law 0;buyer 5 0;" + "ware cloth 4 0;".repeat(3));
        Due.tell(three, 0, 4, 4, 4);
        dueHeard(three, 0, 2, 4, 0);
        dueHeard(three, 0, 3, 4, 7);
        HeapEnds none = Due.read("law 0;buyer 5 0;");
        Due.tell(none, 0, 0);
        dueHeard(none, 0, 1, 0, Due.NONE);
    }

    private static void heardInAll() {
        Due.sentence("Promise 25, heard", "WARES taken in all (1, bits; NONE: there is no way)");
        HeapEnds x = Due.read("law 0;buyer 5 0;ware cloth 9 0;" + "ware cloth 1 0;".repeat(9));
        for (int ware = 10; ware < 16; ware++) {
            x.lay(4, ware == 15 ? 8 : 1, 1);
        }
        Due.tell(x, 0, 9, 8, 1, 1, 2);
        dueHeard(x, 0, 1, 1, 1);
        dueHeard(x, 1, 1, 1, 1 << 15);
        dueHeard(x, 0, 2, 1, 1 | 1 << 15);
        dueHeard(x, 0, 3, 2, 1 | 1 << 15);
        dueHeard(x, 2, 1, 0, Due.NONE);
        dueHeard(x, 0, 5, 0, Due.NONE);
        Due.sentence("Terms, 3 FORETOLD", "the WARES that are taken in all of these");
        HeapEnds y = Due.read("law 0;buyer 5 0;ware cloth 4 0;ware cloth 3 0;ware cloth 4 0;");
        Due.tell(y, 0, 4, 3, 4);
        dueHeard(y, 0, 1, 2, 0);
        dueHeard(y, 0, 2, 2, 2);
        dueHeard(y, 0, 3, 2, 7);
    }

    private static void heardValues() {
        Due.sentence("Terms, 3 FORETOLD", "a row tells VALUES to a BUYER, of WARES taken by him one after another from now on");
        HeapEnds x = Due.read("law 0;buyer 1 0;ware fruit 3 3;ware cloth 9 0;ware fruit 5 1;ware fruit 0 0;");
        Due.tell(x, 0, 0, 0, 8, 9, 8);
        // To him 0 9 8 0: both of 0 in two ways, then 8 and 9, no DAY between.
        dueHeard(x, 0, 2, 2, 1 | 8);
        dueHeard(x, 0, 3, 2, 1 | 4 | 8);
        dueHeard(x, 0, 4, 2, 15);
        dueHeard(x, 0, 5, 0, Due.NONE);
        HeapEnds ends = Due.read("law 0;buyer 5 0;ware fruit 5 0;ware cloth 9 0;ware melon 3 0;");
        Due.tell(ends, 0, 5, 3, 4);
        dueHeard(ends, 0, 1, 1, 1);
        dueHeard(ends, 1, 1, 1, 4);
        dueHeard(ends, 0, 2, 1, 1 | 4);
        dueHeard(ends, 2, 1, 0, Due.NONE);
        ends.day();
        dueHeard(ends, 0, 1, 0, Due.NONE);
        dueHeard(ends, 2, 1, 2, 0);
        for (int item : new int[] {-1, 256, 65536, LEAST, MOST, Due.NONE}) {
            Due.tell(x, 0, item);
            dueHeard(x, 0, 1, 0, Due.NONE);
        }
        x.row(0, 0, 1);
        x.set(0, 0, 256);
        dueHeard(x, 0, 1, 2, 0);
    }

    private static void heardBad() {
        Due.sentence("Promise 25, heard", "BAD: BUYER, ROW, n, what");
        for (int buyer : NO_BUYERS) {
            Twins.dueBad("heard(" + buyer + ", 0, 0, 1, 0)", x -> x.heard(buyer, 0, 0, 1, 0));
        }
        for (int row : NO_ROWS) {
            Twins.dueBad("heard(0, " + row + ", 0, 1, 0)", x -> x.heard(0, row, 0, 1, 0));
        }
        for (int n : new int[] {0, -1, 11, LEAST, MOST}) {
            Twins.dueBad("heard(0, 0, 0, " + n + ", 0)", x -> x.heard(0, 0, 0, n, 0));
        }
        for (int what : NOT_0_OR_1) {
            Twins.dueBad("heard(0, 0, 0, 1, " + what + ")", x -> x.heard(0, 0, 0, 1, what));
        }
        Twins.dueRefused(Twins::bare, "no MARKET: heard(0, 0, 0, 1, 0)", x -> x.heard(0, 0, 0, 1, 0), Due.BAD);
        Due.sentence("Terms (heard: BAD ahead of NULL, PLACE)", "Refusals are answers, the first of these that fits");
        Twins.dueBad("heard(2, 3, 0, 1, 0)", x -> x.heard(2, 3, 0, 1, 0));
        Twins.dueBad("heard(0, 3, 0, 11, 0)", x -> x.heard(0, 3, 0, 11, 0));
        Twins.dueBad("heard(0, 0, -1, 1, 2)", x -> x.heard(0, 0, -1, 1, 2));
    }

    private static void heardFindings() {
        Due.sentence("Promise 25, heard", "NULL; PLACE.");
        Twins.dueFound("heard(0, 3, 0, 1, 0)", x -> x.heard(0, 3, 0, 1, 0), Due.NULL);
        Twins.dueFound("NULL ahead of PLACE: heard(0, 3, -1, 10, 0)", x -> x.heard(0, 3, -1, 10, 0), Due.NULL);
        for (int[] p : NO_PLACES) {
            Twins.dueFound("heard(0, 0, " + p[0] + ", " + p[1] + ", 1)", x -> x.heard(0, 0, p[0], p[1], 1), Due.PLACE);
        }
        Twins.dueFound("of none: heard(0, 2, 0, 1, 0)", x -> x.heard(0, 2, 0, 1, 0), Due.PLACE);
        Due.due("up to the end: heard(0, 0, 0, 3, 0)", Twins.shop().heard(0, 0, 0, 3, 0), 0);
    }

    private static void apartEdges() {
        Due.sentence("Terms, 3 FORETOLD", "APART: THE HEAP is two stalls, of the first p WARES from the left, and of all others; a BUYER takes k WARES (of those that lie)");
        HeapEnds x = Due.read("law 0;buyer 1 99;ware cloth 1 0;ware fruit 4 0;ware cloth 2 0;ware cloth 7 0;");
        // To him 1 8 2 7; k from 0 to 4 for each p.
        int[][] due = {
            {0, 7, 9, 17, 18},
            {0, 8, 15, 17, 18},
            {0, 8, 15, 17, 18},
            {0, 7, 10, 17, 18},
            {0, 7, 9, 17, 18},
        };
        for (int p = 0; p <= 4; p++) {
            for (int k = 0; k <= 4; k++) {
                Due.due("apart(0, " + p + ", " + k + ")", x.apart(0, p, k), due[p][k]);
            }
        }
        HeapEnds most = sixteen("buyer 4 0;", 4, 30);
        for (int p = 0; p <= 16; p++) {
            Due.due("all of 16: apart(0, " + p + ", 16)", most.apart(0, p, 16), 960);
            Due.due("none of 16: apart(0, " + p + ", 0)", most.apart(0, p, 0), 0);
            Due.due("one of 16: apart(0, " + p + ", 1)", most.apart(0, p, 1), 60);
        }
        Due.due("nothing lies: apart(0, 0, 0)", Due.read("law 0;buyer 0 0;").apart(0, 0, 0), 0);
    }

    private static void apartEitherEnd() {
        Due.sentence("Terms, 3 FORETOLD", "each from an end of either: the most that he GAINS");
        HeapEnds x = Due.read("law 0;buyer 5 0;ware cloth 1 0;ware cloth 9 0;ware cloth 1 0;ware cloth 3 0;ware cloth 8 0;ware cloth 2 0;");
        Due.due("the right end of the first: apart(0, 2, 1)", x.apart(0, 2, 1), 9);
        Due.due("the left end of the second: apart(0, 1, 1)", x.apart(0, 1, 1), 9);
        Due.due("neither middle: apart(0, 3, 1)", x.apart(0, 3, 1), 3);
        Due.due("both of one: apart(0, 3, 2)", x.apart(0, 3, 2), 11);
        Due.due("two of each: apart(0, 3, 4)", x.apart(0, 3, 4), 10 + 11);
        Due.due("one stall of one: apart(0, 5, 2)", x.apart(0, 5, 2), 11);
        HeapEnds rotten = Due.read("law 0;buyer 5 0;" + "ware fruit 0 9;".repeat(3) + "ware silk 0 3;");
        Due.due("VALUES of this DAY: apart(0, 2, 2)", rotten.apart(0, 2, 2), 2);
    }

    private static void apartBad() {
        Due.sentence("Promise 26, apart", "BAD: BUYER, p (0 to how many lie), k (likewise).");
        for (int buyer : NO_BUYERS) {
            Twins.dueBad("apart(" + buyer + ", 0, 0)", x -> x.apart(buyer, 0, 0));
        }
        for (int wrong : new int[] {-1, 5, 16, LEAST, MOST}) {
            Twins.dueBad("apart(0, " + wrong + ", 0)", x -> x.apart(0, wrong, 0));
            Twins.dueBad("apart(0, 0, " + wrong + ")", x -> x.apart(0, 0, wrong));
        }
        HeapEnds x = Twins.shop();
        Due.due("how many lie: apart(0, 4, 4)", x.apart(0, 4, 4), 34);
        x.take(0, 0);
        Due.due("one less: apart(0, 4, 0)", x.apart(0, 4, 0), Due.BAD);
        Due.due("one less: apart(0, 0, 4)", x.apart(0, 0, 4), Due.BAD);
        Due.due("one less: apart(0, 3, 3)", x.apart(0, 3, 3), 29);
        Twins.dueRefused(Twins::bare, "no MARKET: apart(0, 0, 0)", y -> y.apart(0, 0, 0), Due.BAD);
        HeapEnds none = Due.read("law 0;buyer 0 0;");
        Due.due("nothing lies: apart(0, 1, 0)", none.apart(0, 1, 0), Due.BAD);
        Due.due("nothing lies: apart(0, 0, 1)", none.apart(0, 0, 1), Due.BAD);
    }

    /** What was foretold before, when more lay, leaves nothing behind. */
    private static void foretoldAnew() {
        Due.sentence("Terms, 3 FORETOLD (nor what is foretold next)", "(nothing changes");
        HeapEnds x = Due.read("law 0;buyer 0 200;ware cloth 1 0;ware cloth 1 0;ware cloth 1 0;ware cloth 1 0;ware cloth 30 0;");
        Due.tell(x, 0, 2, 2, 2, 60, 2);
        // Twice 1 1 1 1 30, then without the 30, then without the 1 at the left.
        Due.due("apart(0, 2, 1)", x.apart(0, 2, 1), 60);
        dueHeard(x, 0, 4, 1, 31 - 8);
        dueHarvest(x, 68, 0, 0, 0, 0, 0);
        x.take(0, 1);
        Due.due("apart(0, 2, 1)", x.apart(0, 2, 1), 2);
        Due.due("apart(0, 0, 1)", x.apart(0, 0, 1), 2);
        Due.due("apart(0, 4, 4)", x.apart(0, 4, 4), 8);
        dueHeard(x, 0, 4, 0, Due.NONE);
        dueHeard(x, 0, 3, 8, 0);
        dueHarvest(x, 8, 0, 0, 0, 0);
        x.take(0, 0);
        Due.due("apart(0, 1, 2)", x.apart(0, 1, 2), 4);
        dueHeard(x, 0, 3, 4, 2 + 4 + 8);
        dueHarvest(x, 6, 0, 0, 0);
    }

    private static void nothingChanges() {
        Due.sentence("Terms, 3 FORETOLD", "(nothing changes, nobody PAYS, whatever is in PURSES; no DAY goes by but where told)");
        // To 0: 5, 14, 6, 9; to 1: 10, 28, 3, 18.
        Twins.dueNoChange(Twins::shop, "line(0, 0, 1, 1)", x -> x.line(0, 0, 1, 1), 18, 0);
        Twins.dueNoChange(Twins::shop, "line(0, 2, 1, -1)", x -> x.line(0, 2, 1, -1), 3, 0);
        Twins.dueNoChange(Twins::shop, "rots(2, 1)", x -> x.rots(2, 1), 1 << 3, 2);
        Twins.dueNoChange(Twins::shop, "reach(3, 1)", x -> x.reach(3, 1), 9, 2);
        Twins.dueNoChange(Twins::shop, "harvest(0, -1)", x -> x.harvest(0, -1), 9 + 2 + 15 + 5, 2);
        Twins.dueNoChange(Twins::shop, "judge(0, 0, 2)", x -> x.judge(0, 0, 2), Due.NONE, 0);
        Twins.dueNoChange(Twins::shop, "heard(1, 1, 0, 1, 0)", x -> x.heard(1, 1, 0, 1, 0), 0, 0);
        Twins.dueNoChange(Twins::shop, "apart(1, 2, 4)", x -> x.apart(1, 2, 4), 59, 2);
    }
}
