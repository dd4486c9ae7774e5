/** Promises 9 to 15, 27, 28 and 33. */
public final class ActsTest {
    private static final String MARKET = "law 0;buyer 1 40;buyer 5 200;buyer 0 3;"
        + "ware fruit 6 1;ware melon 4 3;ware berry 9 2;ware cloth 5 0;ware silk 2 7;ware fruit 3 3;";

    public static void main(String[] args) {
        values();
        wares();
        take();
        lay();
        day();
        undo();
        mostActs();
        images();
        count();
        Due.end("ActsTest");
    }

    private static void values() {
        HeapEnds x = Due.read("law 0;buyer 0 0;ware fruit 8 1;ware melon 4 3;ware berry 9 0;ware cloth 5 9;ware silk 2 1;ware silk 0 0;");
        int[][] due = {
            {7, 6, 5, 4, 3, 2, 1, 0, 0, 0},
            {7, 8, 9, 7, 5, 3, 1, 0, 0, 0},
            {9, 7, 5, 3, 1, 0, 0, 0, 0, 0},
            {5, 5, 5, 5, 5, 5, 5, 5, 5, 5},
            {2, 2, 3, 3, 3, 4, 4, 4, 5, 5},
            {0, 0, 0, 1, 1, 1, 2, 2, 2, 3},
        };
        int[] rots = {0, 0, 0, 0, 0, 1 << 2, 0, 1 << 0 | 1 << 1, 0, 0};
        for (int day = 0; day < 10; day++) {
            for (int ware = 0; ware < 6; ware++) {
                String what = "ware " + ware + " on day " + day;
                Due.due("value of " + what, x.ware(ware, 2), due[ware][day]);
                Due.due("rotten: " + what, x.ware(ware, 5), due[ware][day] == 0 ? 1 : 0);
                Due.due("to one who likes all: " + what, x.worth(ware, 0), 2 * due[ware][day]);
            }
            if (day < 9) {
                Due.due("rots on day " + (day + 1), x.day(), rots[day + 1]);
            }
        }
    }

    private static void wares() {
        HeapEnds x = Due.read("law 0;buyer 0 9;buyer 1 9;buyer 2 9;buyer 3 9;"
            + "ware fruit 9 0;ware melon 9 0;ware berry 9 0;ware cloth 9 0;ware silk 9 0;");
        boolean[][] likes = {
            {true, true, true, true, true},
            {true, true, true, false, false},
            {false, true, false, false, false},
            {false, false, true, false, false},
        };
        for (int buyer = 0; buyer < 4; buyer++) {
            for (int ware = 0; ware < 5; ware++) {
                Due.due("worth " + ware + " to " + buyer, x.worth(ware, buyer), likes[buyer][ware] ? 18 : 9);
            }
        }
        HeapEnds y = Due.read("law 0;buyer 4 9;buyer 5 9;ware cloth 9 0;ware silk 9 0;ware fruit 9 0;");
        Due.due("cloth to 4", y.worth(0, 0), 18);
        Due.due("silk to 4", y.worth(1, 0), 18);
        Due.due("fruit to 4", y.worth(2, 0), 9);
        Due.due("cloth to 5", y.worth(0, 1), 9);
        Due.due("silk to 5", y.worth(1, 1), 18);
        Due.due("worth: ware -1", y.worth(-1, 0), Due.BAD);
        Due.due("worth: ware 3", y.worth(3, 0), Due.BAD);
        Due.due("worth: buyer -1", y.worth(0, -1), Due.BAD);
        Due.due("worth: buyer 2", y.worth(0, 2), Due.BAD);
        Due.due("ware -1", y.ware(-1, 0), Due.BAD);
        Due.due("ware 3", y.ware(3, 0), Due.BAD);
        Due.due("ware what -1", y.ware(0, -1), Due.BAD);
        Due.due("ware what 6", y.ware(0, 6), Due.BAD);
        Due.due("buyer -1", y.buyer(-1, 0), Due.BAD);
        Due.due("buyer 2", y.buyer(2, 0), Due.BAD);
        Due.due("buyer what -1", y.buyer(0, -1), Due.BAD);
        Due.due("buyer what 4", y.buyer(0, 4), Due.BAD);
    }

    private static void take() {
        HeapEnds x = Due.read(MARKET);
        Due.due("buyer -1", x.take(-1, 0), Due.BAD);
        Due.due("buyer 3", x.take(3, 0), Due.BAD);
        Due.due("end -1", x.take(0, -1), Due.BAD);
        Due.due("end 2", x.take(0, 2), Due.BAD);
        Due.due("too dear", x.take(2, 0), Due.STATE);
        Due.due("that is no act", x.count(5), 0);
        Due.due("a rotten one is free", x.take(2, 1), 0);
        Due.due("it is taken", x.ware(5, 4), 2);
        Due.due("it has no place", x.ware(5, 3), Due.NONE);
        Due.due("left", x.take(0, 0), 10);
        Due.due("he pays its value", x.buyer(0, 1), 35);
        Due.due("he gains twice that", x.buyer(0, 2), 10);
        Due.due("the next is first", x.ware(1, 3), 0);
        Due.due("right", x.take(1, 1), 8);
        Due.due("what he paid", x.buyer(1, 1), 196);
        Due.due("how many he took", x.buyer(1, 3), 1);
        Due.due("what lies", x.count(3), 3);
        x.take(0, 1);
        Due.due("cloth is no fruit", x.buyer(0, 2), 15);
        x.day();
        Due.due("as it was taken", x.ware(0, 1), 1);
        Due.due("its value then", x.worth(0, 0), 10);
        Due.due("the others are older", x.ware(1, 1), 4);
        x.take(1, 0);
        x.take(1, 0);
        Due.due("what he gained in all", x.buyer(1, 2), 8 + 8 + 3);
        Due.due("none lies", x.take(1, 0), Due.STATE);
        Due.due("bad ahead of state", x.take(1, 2), Due.BAD);
        HeapEnds y = Due.read("law 0;buyer 4 5;ware cloth 5 0;ware cloth 1 0;");
        Due.due("all that he has", y.take(0, 0), 10);
        Due.due("an empty purse", y.buyer(0, 1), 0);
        Due.due("one too many", y.take(0, 0), Due.STATE);
        HeapEnds z = Due.read("law 0;buyer 4 5;buyer 4 4;ware fruit 5 0;ware melon 5 0;");
        Due.due("its value is that of this day", z.take(1, 0), Due.STATE);
        Due.due("neither more nor less", z.take(0, 0), 5);
        z.undo();
        Due.due("what he gained is undone", z.buyer(0, 2), 0);
        Due.due("what he paid, too", z.buyer(0, 1), 5);
        z.day();
        Due.due("a day on", z.take(1, 0), 4);
        Due.due("another's", z.take(0, 0), Due.STATE);
    }

    private static void lay() {
        HeapEnds x = new HeapEnds();
        Due.due("no market ahead of bad", x.lay(9, 0, 0), Due.STATE);
        Due.readInto(x, "law 0;buyer 0 99;ware cloth 1 5;");
        Due.due("kind 0", x.lay(0, 0, 0), Due.BAD);
        Due.due("kind 6", x.lay(6, 0, 0), Due.BAD);
        Due.due("worth -1", x.lay(1, -1, 0), Due.BAD);
        Due.due("worth 31", x.lay(1, 31, 0), Due.BAD);
        Due.due("end -1", x.lay(1, 0, -1), Due.BAD);
        Due.due("end 2", x.lay(1, 0, 2), Due.BAD);
        Due.due("left", x.lay(1, 30, 0), 1);
        Due.due("right", x.lay(5, 0, 1), 2);
        Due.due("left again", x.lay(2, 7, 0), 3);
        int[] places = {2, 1, 3, 0};
        for (int ware = 0; ware < 4; ware++) {
            Due.due("place of " + ware, x.ware(ware, 3), places[ware]);
            Due.due("age of " + ware, x.ware(ware, 1), ware == 0 ? 5 : 0);
        }
        Due.due("its kind", x.kind(3), 2);
        Due.due("its worth", x.ware(3, 0), 7);
        Due.due("nobody took it", x.ware(3, 4), Due.NONE);
        x.take(0, 0);
        for (int ware = 4; ware < 16; ware++) {
            Due.due("lay " + ware, x.lay(3, 9, ware % 2), ware);
        }
        Due.due("one more", x.lay(3, 9, 0), Due.FULL);
        Due.due("bad ahead of full", x.lay(3, 31, 0), Due.BAD);
        x.take(0, 0);
        Due.due("those taken count, too", x.lay(3, 9, 0), Due.FULL);
        x.undo();
        x.undo();
        Due.due("an undone one makes room", x.lay(4, 8, 1), 15);
        Due.due("it is the new one", x.kind(15), 4);
    }

    private static void day() {
        HeapEnds x = new HeapEnds();
        Due.due("no market", x.day(), Due.STATE);
        Due.readInto(x, "law 0;buyer 0 99;ware fruit 2 1;ware berry 4 1;ware fruit 1 1;ware fruit 2 1;");
        x.take(0, 1);
        Due.due("three that lie rot, one had done so, one is taken", x.day(), 1 << 0 | 1 << 1);
        Due.due("no more", x.day(), 0);
        Due.due("the day", x.count(4), 2);
        x.lay(1, 1, 0);
        Due.due("a new one", x.day(), 1 << 4);
        Due.due("its age", x.ware(4, 1), 1);
        Due.due("an older one's", x.ware(2, 1), 4);
    }

    private static void undo() {
        HeapEnds x = Due.read(MARKET);
        Due.due("none", x.undo(), Due.STATE);
        x.take(0, 0);
        x.take(0, 1);
        x.day();
        x.lay(3, 9, 0);
        x.lay(4, 3, 1);
        x.day();
        x.take(1, 0);
        x.take(1, 1);
        Due.due("the last take", x.undo(), 7);
        Due.due("back at its place", x.ware(7, 3), 4);
        Due.due("nobody took it", x.ware(7, 4), Due.NONE);
        Due.due("his purse", x.buyer(1, 1), 193);
        Due.due("what he gained", x.buyer(1, 2), 7);
        Due.due("how many he took", x.buyer(1, 3), 1);
        Due.due("the take from the left", x.undo(), 6);
        Due.due("back at the left", x.ware(6, 3), 0);
        Due.due("his purse again", x.buyer(1, 1), 200);
        Due.due("the day", x.undo(), 5);
        Due.due("it is a day ago", x.count(4), 1);
        Due.due("those that lie are younger", x.ware(6, 1), 0);
        Due.due("those, too", x.ware(1, 1), 4);
        Due.due("those that are taken are not", x.ware(0, 1), 1);
        Due.due("what was laid at the right", x.undo(), 4);
        Due.due("it is no ware", x.ware(7, 0), Due.BAD);
        Due.due("what was laid at the left", x.undo(), 3);
        Due.due("the first that lies", x.ware(1, 3), 0);
        Due.due("how many lie", x.count(3), 4);
        x.undo();
        x.undo();
        Due.due("all", x.undo(), 0);
        Due.due("as it was", x.ware(0, 3), 0);
        Due.due("the last ware, too", x.ware(5, 3), 5);
        Due.due("the purse, too", x.buyer(0, 1), 40);
        Due.due("no more", x.undo(), Due.STATE);
        HeapEnds y = Due.read("law 0;");
        Due.due("a day of an empty heap", y.day(), 0);
        Due.due("it is an act", y.count(5), 1);
        Due.due("it is undone", y.undo(), 0);
        Due.due("day 0", y.count(4), 0);
    }

    private static void mostActs() {
        HeapEnds x = Due.read("law 0;buyer 0 9;ware cloth 1 0;ware cloth 2 0;");
        x.take(0, 0);
        for (int i = 1; i <= 23; i++) {
            x.day();
            Due.due("acts", x.count(5), i + 1);
        }
        x.undo();
        x.day();
        Due.due("24 acts", x.count(5), 24);
        x.day();
        Due.due("24 at most", x.count(5), 24);
        for (int i = 23; i >= 0; i--) {
            Due.due("undone", x.undo(), i);
        }
        Due.due("the oldest is forgotten", x.undo(), Due.STATE);
        Due.due("day 0", x.count(4), 0);
        Due.due("what it did stays", x.count(3), 1);
        for (int i = 0; i < 60; i++) {
            x.day();
        }
        Due.due("60 days", x.count(4), 60);
        for (int i = 0; i < 30; i++) {
            x.undo();
        }
        Due.due("24 of them are undone", x.count(4), 36);
        Due.due("an age", x.ware(1, 1), 36);
    }

    private static void images() {
        HeapEnds x = new HeapEnds();
        Due.due("image -1", x.image(-1), Due.BAD);
        Due.due("image 2", x.image(2), Due.BAD);
        Due.due("no market", x.image(1), Due.STATE);
        Due.due("restore -1", x.restore(-1), Due.BAD);
        Due.due("restore 2", x.restore(2), Due.BAD);
        Due.due("none kept", x.restore(1), Due.STATE);
        Due.readInto(x, MARKET);
        x.take(0, 0);
        x.day();
        Due.due("an image", x.image(0), 1);
        Due.due("acts stay", x.count(5), 2);
        Due.due("the other is none", x.restore(1), Due.STATE);
        x.take(1, 0);
        x.lay(5, 9, 0);
        x.day();
        Due.due("another image", x.image(1), 1);
        x.undo();
        x.undo();
        Due.due("restored", x.restore(1), 1);
        Due.due("no act", x.undo(), Due.STATE);
        Due.due("the day", x.count(4), 2);
        Due.due("wares", x.count(2), 7);
        Due.due("its place", x.ware(6, 3), 0);
        Due.due("its age", x.ware(6, 1), 1);
        Due.due("what he took", x.buyer(1, 3), 1);
        Due.due("the first image", x.restore(0), 1);
        Due.due("wares of it", x.count(2), 6);
        Due.due("the purse of it", x.buyer(1, 1), 200);
        Due.due("what was taken in it", x.ware(0, 4), 0);
        x.day();
        Due.due("again", x.restore(0), 1);
        Due.due("an image is not what comes behind it", x.count(4), 1);
        Due.readInto(x, "law 1;buyer 4 7;buyer 1 7;ware cloth 3 0;ware cloth 9 0;ware cloth 1 0;ware cloth 2 0;");
        x.image(0);
        Due.due("law 1", x.best(0, 1, 0), 2 * 3 + 2 * 1);
        x.restore(1);
        x.restore(0);
        Due.due("the law comes back, too", x.best(0, 1, 0), 2 * 3 + 2 * 1);
        Due.due("the taste, too", x.buyer(0, 0), 4);
    }

    private static void count() {
        HeapEnds x = Due.read(MARKET);
        x.row(2, 0, 0);
        Due.feed(x, "abc");
        x.take(0, 0);
        x.day();
        x.day();
        int[] due = {1, 3, 6, 5, 2, 3, 3};
        for (int what = 0; what < due.length; what++) {
            Due.due("count " + what, x.count(what), due[what]);
        }
        Due.due("count -1", x.count(-1), Due.BAD);
        Due.due("count 7", x.count(7), Due.BAD);
    }
}
