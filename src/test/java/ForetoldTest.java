/** Promises 20 to 26. */
public final class ForetoldTest {
    public static void main(String[] args) {
        line();
        lineRefused();
        rots();
        reach();
        harvest();
        judge();
        judgeRefused();
        heard();
        heardRefused();
        apart();
        Due.end("ForetoldTest");
    }

    private static void line() {
        // VALUES 3 5 4 8; fruit is twice that to 0, cloth to 1.
        HeapEnds x = Due.read("law 0;buyer 1 0;buyer 4 0;ware fruit 4 1;ware cloth 5 0;ware fruit 4 0;ware cloth 8 0;");
        Due.tell(x, 0, 0, 0, 1, 0, 1, 1);
        Due.due("one: lie", x.line(0, 0, 1, -1), 3);
        Due.due("one: gain", x.line(0, 0, 1, 0), 8);
        Due.due("one: of the other", x.line(0, 0, 1, 1), 0);
        Due.due("three: lie", x.line(0, 0, 3, -1), 1);
        // 0 takes 8 (not 6), 0 takes 8 (4 twice, not 6), 1 takes 10 (not 3).
        Due.due("three: gain of 0", x.line(0, 0, 3, 0), 16);
        Due.due("three: gain of 1", x.line(0, 0, 3, 1), 10);
        Due.due("all: lie", x.line(0, 0, 6, -1), 0);
        Due.due("all: gain of 0", x.line(0, 0, 6, 0), 22);
        Due.due("all: gain of 1", x.line(0, 0, 6, 1), 10);
        Due.due("from 2 on", x.line(0, 2, 2, 1), 16);
        Due.due("nothing changes", x.count(3), 4);
        HeapEnds y = Due.read("law 0;buyer 1 0;buyer 5 0;ware silk 5 0;ware cloth 1 0;ware cloth 2 0;ware cloth 5 0;");
        Due.tell(y, 3, 0, 1);
        Due.due("of like ones the left: gain", y.line(3, 0, 2, 1), 5);
        Due.due("of like ones the left: lie", y.line(3, 0, 2, -1), 2);
        HeapEnds riper = Due.read("law 0;buyer 5 0;buyer 1 0;ware melon 4 0;ware fruit 5 0;ware cloth 30 0;ware fruit 6 1;");
        Due.tell(riper, 0, 0, 0, 0);
        Due.due("neither older nor younger", riper.line(0, 0, 3, 0), 5 + 5 + 30);
        HeapEnds z = Due.read("law 0;buyer 1 0;");
        z.row(0, 0, 40);
        Due.due("an empty heap", z.line(0, 0, 40, -1), 0);
        Due.due("an empty heap: gain", z.line(0, 0, 40, 0), 0);
    }

    private static void lineRefused() {
        HeapEnds x = new HeapEnds();
        Due.due("state ahead of bad", x.line(9, 0, 0, 9), Due.STATE);
        Due.readInto(x, "law 0;buyer 1 0;buyer 1 0;ware silk 1 1;");
        Due.due("null", x.line(1, 0, 1, 0), Due.NULL);
        x.row(0, 0, 40);
        Due.due("row -1", x.line(-1, 0, 1, 0), Due.BAD);
        Due.due("row 8", x.line(8, 0, 1, 0), Due.BAD);
        Due.due("n 0", x.line(0, 0, 0, 0), Due.BAD);
        Due.due("n 41", x.line(0, 0, 41, 0), Due.BAD);
        Due.due("n 40", x.line(0, 0, 40, 0), 1);
        Due.due("who -2", x.line(0, 0, 1, -2), Due.BAD);
        Due.due("who 2", x.line(0, 0, 1, 2), Due.BAD);
        Due.due("bad ahead of null", x.line(1, 0, 1, 2), Due.BAD);
        Due.due("i -1", x.line(0, -1, 1, 0), Due.PLACE);
        Due.due("i 40", x.line(0, 40, 1, 0), Due.PLACE);
        Due.due("i 1 n 40", x.line(0, 1, 40, 0), Due.PLACE);
        Due.due("i most", x.line(0, Integer.MAX_VALUE, 40, 0), Due.PLACE);
        x.set(0, 39, 2);
        x.set(0, 38, -1);
        Due.due("place ahead of an item", x.line(0, 38, 3, 0), Due.PLACE);
        Due.due("an item that is no buyer, where nothing lies any more", x.line(0, 0, 39, 0), Due.BAD);
        Due.due("the last item", x.line(0, 39, 1, 0), Due.BAD);
        Due.due("those ahead of it", x.line(0, 0, 38, 0), 1);
    }

    private static void rots() {
        HeapEnds x = new HeapEnds();
        Due.due("state ahead of bad", x.rots(-1, 9), Due.STATE);
        Due.readInto(x, "law 0;buyer 0 99;ware fruit 3 1;ware fruit 3 2;ware berry 9 0;ware silk 0 0;ware melon 1 4;ware cloth 0 0;");
        int[] due = {
            1 << 3 | 1 << 5,
            1 << 1 | 1 << 3 | 1 << 5,
            1 << 0 | 1 << 1 | 1 << 3 | 1 << 5,
            1 << 0 | 1 << 1 | 1 << 5,
            1 << 0 | 1 << 1 | 1 << 4 | 1 << 5,
            1 << 0 | 1 << 1 | 1 << 2 | 1 << 4 | 1 << 5,
        };
        // The melon: 5 on day 0, 6, 4, 2, 0; the silk: 0, 0, 0, 1.
        for (int days = 0; days < due.length; days++) {
            Due.due("how many in " + days, x.rots(days, 0), Integer.bitCount(due[days]));
            Due.due("which in " + days, x.rots(days, 1), due[days]);
            Due.due("within in " + days, x.rots(days, 2), due[days] & ~(1 << 0 | 1 << 5));
        }
        Due.due("in 99", x.rots(99, 1), 1 << 0 | 1 << 1 | 1 << 2 | 1 << 4 | 1 << 5);
        Due.due("n -1", x.rots(-1, 0), Due.BAD);
        Due.due("n 100", x.rots(100, 0), Due.BAD);
        Due.due("what -1", x.rots(0, -1), Due.BAD);
        Due.due("what 3", x.rots(0, 3), Due.BAD);
        x.take(0, 0);
        Due.due("of those that lie", x.rots(2, 1), 1 << 1 | 1 << 3 | 1 << 5);
        Due.due("the ends now", x.rots(2, 2), 1 << 3);
        Due.due("nothing changes", x.ware(1, 1), 2);
        for (int i = 0; i < 5; i++) {
            x.take(0, 0);
        }
        Due.due("none lies: how many", x.rots(99, 0), 0);
        Due.due("none lies: within", x.rots(99, 2), 0);
    }

    private static void reach() {
        HeapEnds x = Due.read("law 0;buyer 0 99;ware cloth 5 0;ware cloth 7 0;ware cloth 6 0;ware cloth 1 0;ware cloth 9 0;");
        int[] fewest = {1, 2, 3, 2, 1};
        int[] least = {0, 5, 10, 9, 0};
        for (int ware = 0; ware < 5; ware++) {
            Due.due("fewest till " + ware, x.reach(ware, 0), fewest[ware]);
            Due.due("least ahead of " + ware, x.reach(ware, 1), least[ware]);
        }
        Due.due("ware -1", x.reach(-1, 0), Due.BAD);
        Due.due("ware 5", x.reach(5, 0), Due.BAD);
        Due.due("what -1", x.reach(0, -1), Due.BAD);
        Due.due("what 2", x.reach(0, 2), Due.BAD);
        x.take(0, 0);
        Due.due("taken", x.reach(0, 0), Due.STATE);
        Due.due("bad ahead of state", x.reach(0, 2), Due.BAD);
        Due.due("one less", x.reach(2, 1), 7);
        HeapEnds y = Due.read("law 0;buyer 1 0;ware fruit 9 0;ware fruit 9 9;ware silk 9 0;ware fruit 9 8;ware fruit 9 1;");
        // The fewest and the least may be at two sides; what counts is VALUE, not what it is to a buyer.
        Due.due("fewest", y.reach(3, 0), 2);
        Due.due("least of the right", y.reach(3, 1), 8);
        Due.due("least of the left", y.reach(2, 1), 9);
        Due.due("likewise", y.reach(1, 1), 9);
    }

    private static void dueHarvest(String what, HeapEnds x, int gain, int... ends) {
        Due.due(what + ": gain", x.harvest(0, -1), gain);
        for (int k = 0; k < ends.length; k++) {
            Due.due(what + ": end " + k, x.harvest(0, k), ends[k]);
        }
        Due.due(what + ": no more", x.harvest(0, ends.length), Due.NONE);
        Due.due(what + ": far off", x.harvest(0, Integer.MAX_VALUE), Due.NONE);
    }

    private static void harvest() {
        dueHarvest("cloth keeps", Due.read("law 0;buyer 1 0;ware cloth 3 0;ware cloth 4 0;ware cloth 5 0;"), 12, 0, 0, 0);
        dueHarvest("fruit first", Due.read("law 0;buyer 5 0;ware cloth 3 0;ware cloth 4 0;ware fruit 5 0;"), 12, 1, 0, 0);
        // Berries of 6: 6 now, 4 in a day; the silk, a CLOTH, is 1 till it is three days old, then 2, twice that to him.
        dueHarvest("berries first", Due.read("law 0;buyer 4 0;ware silk 1 1;ware berry 6 0;ware berry 6 0;"), 6 + 4 + 2 * 2, 1, 1, 0);
        // A melon within: it has 8 now, 9 in a day, 7 in two.
        dueHarvest("the melon in its time", Due.read("law 0;buyer 2 0;ware cloth 1 0;ware melon 4 4;ware cloth 1 0;"), 1 + 18 + 1, 0, 0, 0);
        dueHarvest("one", Due.read("law 0;buyer 2 0;ware cloth 1 0;"), 1, 0);
        dueHarvest("none", Due.read("law 0;buyer 2 0;"), 0);
        HeapEnds x = Due.read("law 0;buyer 0 0;ware cloth 1 0;");
        Due.due("buyer -1", x.harvest(-1, 0), Due.BAD);
        Due.due("buyer 1", x.harvest(1, 0), Due.BAD);
        Due.due("k -2", x.harvest(0, -2), Due.BAD);
        Due.due("no day goes by", x.count(4), 0);
        HeapEnds y = Due.read("law 0;buyer 1 0;ware fruit 2 0;ware cloth 1 0;ware fruit 1 0;ware fruit 9 0;");
        // 18 16 14 .. for the last, 4 2 0 for the first, 2 0 for the third.
        dueHarvest("all of them", y, 4 + 2 * 8 + 0 + 1, 0, 1, 0, 0);
    }

    private static void judge() {
        HeapEnds x = Due.read("law 0;buyer 0 99;ware cloth 1 0;ware cloth 1 0;ware cloth 1 0;ware cloth 1 0;ware cloth 1 0;");
        Due.tell(x, 0, 0, 4, 1, 3, 2, 2, 4, 3, 2, 1, 0, 0, 2);
        Due.due("all", x.judge(0, 0, 5), Due.NONE);
        Due.due("some", x.judge(0, 0, 3), Due.NONE);
        Due.due("told before", x.judge(0, 0, 6), 5);
        Due.due("from the right", x.judge(0, 6, 5), Due.NONE);
        Due.due("told before, at the end", x.judge(0, 6, 6), 5);
        Due.due("within", x.judge(0, 11, 2), 1);
        Due.due("the first within", x.judge(0, 2, 3), 0);
        Due.due("the second", x.judge(0, 1, 3), 1);
        x.take(0, 0);
        Due.due("taken", x.judge(0, 0, 3), 0);
        Due.due("from now on", x.judge(0, 1, 4), Due.NONE);
        Due.due("nothing changes", x.count(3), 4);
        HeapEnds y = Due.read("law 0;buyer 0 0;ware silk 0 0;");
        y.take(0, 0);
        Due.tell(y, 0, 0);
        Due.due("an empty heap", y.judge(0, 0, 1), 0);
    }

    private static void judgeRefused() {
        HeapEnds x = new HeapEnds();
        Due.due("state ahead of bad", x.judge(9, 0, 0), Due.STATE);
        Due.readInto(x, "law 0;ware silk 1 1;ware silk 1 1;");
        Due.due("null", x.judge(0, 0, 1), Due.NULL);
        x.row(0, 0, 20);
        Due.due("row -1", x.judge(-1, 0, 1), Due.BAD);
        Due.due("row 8", x.judge(8, 0, 1), Due.BAD);
        Due.due("n 0", x.judge(0, 0, 0), Due.BAD);
        Due.due("n 17", x.judge(0, 0, 17), Due.BAD);
        Due.due("n 16", x.judge(0, 0, 16), 1);
        Due.due("bad ahead of null", x.judge(1, 0, 17), Due.BAD);
        Due.due("i -1", x.judge(0, -1, 1), Due.PLACE);
        Due.due("i 5 n 16", x.judge(0, 5, 16), Due.PLACE);
        Due.due("i 4 n 16", x.judge(0, 4, 16), 1);
        Due.due("i most", x.judge(0, Integer.MAX_VALUE, 16), Due.PLACE);
        x.set(0, 15, 2);
        Due.due("no ware, though another can't be ahead of it", x.judge(0, 0, 16), Due.BAD);
        x.set(0, 15, -1);
        Due.due("no ware below", x.judge(0, 0, 16), Due.BAD);
        Due.due("those ahead of it", x.judge(0, 0, 15), 1);
    }

    private static void dueHeard(String what, HeapEnds x, int n, int ways, int sure) {
        Due.due(what + ": ways", x.heard(0, 0, 0, n, 0), ways);
        Due.due(what + ": sure", x.heard(0, 0, 0, n, 1), sure);
    }

    private static void heard() {
        HeapEnds x = Due.read("law 0;buyer 1 99;ware cloth 4 0;ware fruit 2 0;ware cloth 3 0;ware cloth 4 0;ware cloth 4 0;");
        // To him 4 4 3 4 4.
        Due.tell(x, 0, 4, 4, 4, 3, 4);
        dueHeard("one", x, 1, 2, 0);
        // LL, LR, RL, RR
        dueHeard("two", x, 2, 4, 0);
        // 4 4 4: all of LL+R, LR+L, LR+R, RL+L, RL+R, RR+L: LLL would be a 3, RRR too.
        dueHeard("three", x, 3, 6, 1 << 0 | 1 << 4);
        // Behind two from the left and one from the right, or one and two, the 3 is at an end.
        dueHeard("four", x, 4, 6, 1 << 0 | 1 << 2 | 1 << 4);
        dueHeard("all five", x, 5, 6, 31);
        Due.tell(x, 0, 4, 5);
        dueHeard("no way", x, 2, 0, Due.NONE);
        Due.tell(x, 0, 2);
        dueHeard("what it is to him counts", x, 1, 0, Due.NONE);
        Due.tell(x, 0, 4, 4, 4, 3, 4, 4);
        dueHeard("more than lie", x, 6, 0, Due.NONE);
        Due.tell(x, 0, 9, 4);
        Due.due("from 1 on", x.heard(0, 0, 1, 1, 0), 2);
        Due.due("nothing changes", x.count(3), 5);
        HeapEnds one = Due.read("law 0;buyer 5 0;ware cloth 4 0;");
        Due.tell(one, 0, 4);
        dueHeard("the last ware is at both ends", one, 1, 1, 1);
        HeapEnds two = Due.read("law 0;buyer 5 0;ware cloth 4 0;ware cloth 4 0;");
        Due.tell(two, 0, 4, 4);
        dueHeard("two alike", two, 2, 2, 3);
        Due.due("nobody pays", two.buyer(0, 1), 0);
        HeapEnds today = Due.read("law 0;buyer 5 0;ware fruit 5 1;ware cloth 9 0;ware fruit 5 1;");
        Due.tell(today, 0, 4, 4, 9);
        dueHeard("values of this day", today, 3, 2, 7);
        HeapEnds none = Due.read("law 0;buyer 5 0;");
        Due.tell(none, 0, 0);
        dueHeard("an empty heap", none, 1, 0, Due.NONE);
        HeapEnds many = Due.read("law 0;buyer 5 0;" + "ware cloth 1 0;".repeat(10));
        many.lay(4, 1, 0);
        Due.tell(many, 0, 1, 1, 1, 1, 1, 1, 1, 1, 1, 1);
        dueHeard("ten of eleven", many, 10, 1024, 0);
        many.undo();
        dueHeard("ten of ten", many, 10, 512, 1023);
    }

    private static void heardRefused() {
        HeapEnds x = new HeapEnds();
        Due.due("no market", x.heard(0, 0, 0, 1, 0), Due.BAD);
        Due.readInto(x, "law 0;buyer 0 0;ware silk 1 1;");
        Due.due("null", x.heard(0, 0, 0, 1, 0), Due.NULL);
        x.row(0, 0, 12);
        Due.due("buyer -1", x.heard(-1, 0, 0, 1, 0), Due.BAD);
        Due.due("buyer 1", x.heard(1, 0, 0, 1, 0), Due.BAD);
        Due.due("row -1", x.heard(0, -1, 0, 1, 0), Due.BAD);
        Due.due("row 8", x.heard(0, 8, 0, 1, 0), Due.BAD);
        Due.due("n 0", x.heard(0, 0, 0, 0, 0), Due.BAD);
        Due.due("n 11", x.heard(0, 0, 0, 11, 0), Due.BAD);
        Due.due("n 10", x.heard(0, 0, 0, 10, 0), 0);
        Due.due("what -1", x.heard(0, 0, 0, 1, -1), Due.BAD);
        Due.due("what 2", x.heard(0, 0, 0, 1, 2), Due.BAD);
        Due.due("bad ahead of null", x.heard(0, 1, 0, 11, 0), Due.BAD);
        Due.due("i -1", x.heard(0, 0, -1, 1, 0), Due.PLACE);
        Due.due("i 3 n 10", x.heard(0, 0, 3, 10, 0), Due.PLACE);
        Due.due("i 2 n 10", x.heard(0, 0, 2, 10, 1), Due.NONE);
        Due.due("i most", x.heard(0, 0, Integer.MAX_VALUE, 10, 0), Due.PLACE);
    }

    private static void apart() {
        HeapEnds x = Due.read("law 0;buyer 1 0;ware cloth 1 0;ware cloth 9 0;ware fruit 1 0;ware cloth 5 0;ware cloth 8 0;ware cloth 3 0;");
        // To him 1 9 2 5 8 3.
        Due.due("none", x.apart(0, 0, 0), 0);
        Due.due("one heap, one", x.apart(0, 0, 1), 3);
        Due.due("one heap, two", x.apart(0, 0, 2), 3 + 8);
        Due.due("all in the first, two", x.apart(0, 6, 2), 3 + 8);
        Due.due("1 9 | 2 5 8 3, one", x.apart(0, 2, 1), 9);
        Due.due("1 9 | 2 5 8 3, three", x.apart(0, 2, 3), 9 + 3 + 8);
        Due.due("1 9 2 | 5 8 3, two", x.apart(0, 3, 2), 5 + 8);
        Due.due("1 9 2 | 5 8 3, three", x.apart(0, 3, 3), 5 + 8 + 3);
        Due.due("1 9 2 | 5 8 3, five", x.apart(0, 3, 5), 11 + 16);
        Due.due("1 9 2 5 8 | 3, one", x.apart(0, 5, 1), 8);
        Due.due("all", x.apart(0, 5, 6), 28);
        Due.due("buyer -1", x.apart(-1, 0, 0), Due.BAD);
        Due.due("buyer 1", x.apart(1, 0, 0), Due.BAD);
        Due.due("p -1", x.apart(0, -1, 0), Due.BAD);
        Due.due("p 7", x.apart(0, 7, 0), Due.BAD);
        Due.due("k -1", x.apart(0, 0, -1), Due.BAD);
        Due.due("k 7", x.apart(0, 0, 7), Due.BAD);
        HeapEnds most = Due.read("law 0;buyer 1 0;" + "ware cloth 2 0;".repeat(10));
        for (int ware = 10; ware < 16; ware++) {
            most.lay(4, 2, 0);
        }
        for (int k = 0; k <= 16; k++) {
            Due.due("16 lie, " + k, most.apart(0, 7, k), 2 * k);
            Due.due("16 lie, the first stall alone, " + k, most.apart(0, 16, k), 2 * k);
            Due.due("harvest of 16, " + k, most.harvest(0, k), k < 16 ? 0 : Due.NONE);
        }
        Due.due("harvest of 16", most.harvest(0, -1), 32);
        HeapEnds none = Due.read("law 0;buyer 1 0;");
        Due.due("an empty heap", none.apart(0, 0, 0), 0);
        Due.due("an empty heap, one", none.apart(0, 0, 1), Due.BAD);
        Due.due("an empty heap, p 1", none.apart(0, 1, 0), Due.BAD);
    }
}
