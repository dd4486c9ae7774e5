/** Promises 16 to 19. */
public final class TurnsTest {
    private static final String TWO = "buyer 1 0;buyer 2 0;";
    private static final String UNLIKE = "buyer 1 0;buyer 4 0;";

    public static void main(String[] args) {
        bestByOneEach();
        bestByTwoEach();
        bestByTaste();
        passBy();
        passByTwoEach();
        laid();
        ring();
        wrongBuyers();
        nothingLies();
        mostLie();
        Due.end("TurnsTest");
    }

    /** Wares of cloth of these worths, which are worth the same to both. */
    private static HeapEnds cloths(int law, int... worths) {
        StringBuilder text = new StringBuilder("law " + law + ";" + TWO);
        for (int worth : worths) {
            text.append("ware cloth ").append(worth).append(" 0;");
        }
        return Due.read(text.toString());
    }

    private static void dueBest(String what, HeapEnds x, int gainA, int gainB, int end) {
        Due.due(what + ": gain of a", x.best(0, 1, 0), gainA);
        Due.due(what + ": gain of b", x.best(0, 1, 1), gainB);
        Due.due(what + ": end", x.best(0, 1, 2), end);
    }

    private static void bestByOneEach() {
        dueBest("one", cloths(0, 7), 7, 0, 0);
        dueBest("two", cloths(0, 7, 8), 8, 7, 1);
        dueBest("two alike", cloths(0, 7, 7), 7, 7, 0);
        dueBest("three", cloths(0, 2, 9, 3), 2 + 3, 9, 0);
        // Not the greater end: that would lay the 9 open.
        dueBest("four", cloths(0, 3, 9, 1, 2), 9 + 2, 3 + 1, 1);
        dueBest("all rotten", cloths(0, 0, 0, 0), 0, 0, 0);
        HeapEnds x = cloths(0, 3, 9, 1, 2);
        Due.due("b first", x.best(1, 0, 0), 11);
        Due.due("nothing changes", x.count(3), 4);
        Due.due("nobody pays", x.buyer(0, 1), 0);
    }

    private static void bestByTwoEach() {
        dueBest("one", cloths(1, 7), 7, 0, 0);
        dueBest("three", cloths(1, 2, 9, 3), 3, 2 + 9, 1);
        // a, b, b, a
        dueBest("four", cloths(1, 3, 9, 1, 2), 3 + 1, 9 + 2, 0);
        // a, b, b, a, a
        dueBest("five", cloths(1, 1, 8, 1, 1, 8), 8 + 1 + 1, 1 + 8, 1);
        // a, b, b, a, a, b, b, a: all alike, so the turns alone count
        dueBest("eight", cloths(1, 5, 5, 5, 5, 5, 5, 5, 5), 20, 20, 0);
        dueBest("six", cloths(1, 5, 5, 5, 5, 5, 5), 15, 15, 0);
        dueBest("seven", cloths(1, 5, 5, 5, 5, 5, 5, 5), 15, 20, 0);
    }

    private static void bestByTaste() {
        // Each looks at what he gains himself, not at what the other loses by it.
        HeapEnds x = Due.read("law 0;buyer 4 0;buyer 1 0;ware cloth 5 0;ware fruit 9 0;");
        dueBest("cloth is more to a", x, 10, 18, 0);
        Due.due("fruit is more to b", x.best(1, 0, 2), 1);
        HeapEnds y = Due.read("law 0;buyer 5 0;buyer 3 0;ware berry 9 3;ware silk 4 6;ware berry 3 0;");
        // 3, 6, 3 of VALUE; to a 3, 12, 3; to b 6, 6, 6: b takes the left of like ones, so a lays no silk at the left.
        dueBest("values of this day", y, 3 + 12, 6, 1);
        y.day();
        // 1, 6, 1; to a 1, 12, 1; to b 2, 6, 2: b takes the silk in any case.
        dueBest("values of the next", y, 2, 6, 0);
    }

    private static void passBy() {
        Due.due("the middle falls to a", cloths(0, 1, 9, 1).passBy(0, 1), 9 - 2);
        Due.due("nothing by it", cloths(0, 1, 9).passBy(0, 1), 0);
        Due.due("one ware", cloths(0, 9).passBy(0, 1), 0);
        HeapEnds x = cloths(0, 1, 9, 1);
        x.passBy(0, 1);
        Due.due("nothing changes", x.count(3), 3);
        dueBest("best stays", x, 2, 9, 0);
        // The pass is of use only behind the first turn: 1 9 1 with one more at the end for each.
        Due.due("a later turn", cloths(0, 20, 20, 1, 9, 1).passBy(0, 1), 7);
        HeapEnds y = Due.read("law 0;buyer 4 0;buyer 1 0;ware fruit 1 0;ware cloth 9 0;ware fruit 1 0;");
        // to a 1, 18, 1, to b 2, 9, 2
        Due.due("by what it is to him", y.passBy(0, 1), 18 - 2);
        Due.due("by what it is to the other", y.passBy(1, 0), 9 - 4);
        HeapEnds less = Due.read("law 0;" + UNLIKE + "ware fruit 3 0;ware fruit 4 0;ware cloth 1 0;ware fruit 1 0;ware fruit 1 0;");
        // b, knowing of the pass, takes otherwise, and a would have 2 less.
        Due.due("0 at least", less.passBy(0, 1), 0);
        HeapEnds alike = Due.read("law 0;" + UNLIKE + "ware cloth 0 0;ware cloth 2 0;ware fruit 1 0;ware fruit 3 0;ware cloth 3 0;");
        // Were he to pass, too, where that is only as good as an end, b would take otherwise, and a have 3 more.
        Due.due("only where it is more", alike.passBy(0, 1), 0);
        HeapEnds z = Due.read("law 0;" + UNLIKE + "ware cloth 1 0;ware cloth 4 0;ware fruit 1 0;");
        // to a 1 4 2, to b 2 8 1: 3 by either end; behind a pass b takes the left of like ones, and a the 4.
        Due.due("a little more", z.passBy(0, 1), 4 - 3);
    }

    private static void passByTwoEach() {
        // to a 4 8 4, to b 8 4 8: behind a pass b takes his two at the ends, and leaves the middle to a.
        HeapEnds x = Due.read("law 1;" + UNLIKE + "ware cloth 4 0;ware fruit 4 0;ware cloth 4 0;");
        Due.due("the middle falls to a", x.passBy(0, 1), 8 - 4);
        // to a 3 10 10 4, to b 6 5 5 8: a has 4 and a 10, behind a pass both of the 10.
        HeapEnds y = Due.read("law 1;" + UNLIKE + "ware cloth 3 0;ware fruit 5 0;ware fruit 5 0;ware cloth 4 0;");
        Due.due("both of the middle fall to a", y.passBy(0, 1), 20 - 14);
        // A pass is of one take: behind one at the first of his two turns he has the second yet.
        Due.due("four alike", cloths(1, 5, 5, 5, 5).passBy(0, 1), 0);
        Due.due("three", cloths(1, 1, 9, 1).passBy(0, 1), 0);
        Due.due("two", cloths(1, 3, 3).passBy(0, 1), 0);
    }

    private static void dueLaid(String what, HeapEnds x, int gain, int... wares) {
        Due.due(what + ": gain", x.laid(0, 1, -1), gain);
        for (int k = 0; k < wares.length; k++) {
            Due.due(what + ": ware at " + k, x.laid(0, 1, k), wares[k]);
        }
        Due.due(what + ": no more", x.laid(0, 1, wares.length), Due.NONE);
        Due.due(what + ": far off", x.laid(0, 1, Integer.MAX_VALUE), Due.NONE);
    }

    private static void laid() {
        dueLaid("one", cloths(0, 7), 7, 0);
        dueLaid("two", cloths(0, 7, 8), 8, 0, 1);
        // The greatest at an end; b has the greater of the two that stay.
        dueLaid("three", cloths(0, 4, 9, 2), 9 + 2, 0, 2, 1);
        dueLaid("as they lie", cloths(0, 9, 2, 4), 9 + 2, 0, 1, 2);
        dueLaid("by numbers, not as they lie", falling(), 9 + 2, 0, 2, 1);
        dueLaid("all alike", cloths(0, 3, 3, 3, 3, 3, 3), 9, 0, 1, 2, 3, 4, 5);
        HeapEnds y = Due.read("law 0;buyer 1 99;buyer 2 0;ware cloth 1 0;ware cloth 1 0;ware cloth 1 0;ware cloth 1 0;"
            + "ware cloth 4 0;ware cloth 9 0;ware cloth 2 0;");
        Due.due("seven", y.laid(0, 1, -1), Due.FULL);
        Due.due("seven, place", y.laid(0, 1, 9), Due.FULL);
        Due.due("bad ahead of full", y.laid(0, 1, -2), Due.BAD);
        for (int i = 0; i < 4; i++) {
            y.take(0, 0);
        }
        dueLaid("numbers of those that lie", y, 9 + 2, 4, 6, 5);
        y.lay(4, 0, 0);
        // Behind the 9 b has 2 or 0 alone, where the 4 is between those.
        Due.due("four lie", y.laid(0, 1, -1), 9 + 4);
        Due.due("nothing changes", y.ware(7, 3), 0);
    }

    /** Three that lie with the last number at the left, of worths 4 9 2 by numbers. */
    private static HeapEnds falling() {
        HeapEnds x = cloths(0, 4);
        x.lay(4, 9, 0);
        x.lay(4, 2, 0);
        return x;
    }

    private static void ring() {
        HeapEnds x = cloths(0, 4, 2, 9);
        // 4 2 9 and 9 4 2 give like gains: of these the least cut.
        Due.due("as it lies: gain", x.ring(0, 1, 0), 9 + 2);
        Due.due("as it lies: cut", x.ring(0, 1, 1), 0);
        HeapEnds y = cloths(0, 4, 9, 2);
        // 4 9 2 gives 6 alone, 9 2 4 more.
        Due.due("cut: gain", y.ring(0, 1, 0), 9 + 2);
        Due.due("cut", y.ring(0, 1, 1), 1);
        HeapEnds one = cloths(1, 4);
        Due.due("one: gain", one.ring(0, 1, 0), 4);
        Due.due("one: cut", one.ring(0, 1, 1), 0);
        Due.due("what -1", x.ring(0, 1, -1), Due.BAD);
        Due.due("what 2", x.ring(0, 1, 2), Due.BAD);
        Due.due("nothing changes", y.ware(0, 3), 0);
    }

    private static void wrongBuyers() {
        HeapEnds x = cloths(0, 1, 2, 3);
        int[][] pairs = {{0, 0}, {1, 1}, {-1, 0}, {0, -1}, {2, 0}, {0, 2}, {Integer.MIN_VALUE, Integer.MAX_VALUE}};
        for (int[] pair : pairs) {
            String who = pair[0] + ", " + pair[1];
            Due.due("best of " + who, x.best(pair[0], pair[1], 0), Due.BAD);
            Due.due("pass of " + who, x.passBy(pair[0], pair[1]), Due.BAD);
            Due.due("laid of " + who, x.laid(pair[0], pair[1], -1), Due.BAD);
            Due.due("ring of " + who, x.ring(pair[0], pair[1], 0), Due.BAD);
        }
        Due.due("best what -1", x.best(0, 1, -1), Due.BAD);
        Due.due("best what 3", x.best(0, 1, 3), Due.BAD);
        Due.due("laid -2", x.laid(0, 1, -2), Due.BAD);
    }

    private static void mostLie() {
        for (int law = 0; law < 2; law++) {
            HeapEnds x = cloths(law, 1, 1, 1, 1, 1, 1, 1, 1, 1, 1);
            for (int ware = 10; ware < 15; ware++) {
                x.lay(4, 1, ware % 2);
            }
            x.lay(4, 30, 1);
            dueBest("16, law " + law, x, 30 + 7, 8, 1);
            Due.due("pass, law " + law, x.passBy(0, 1), 0);
            Due.due("ring, law " + law, x.ring(0, 1, 0), 30 + 7);
            Due.due("ring cut, law " + law, x.ring(0, 1, 1), 0);
            Due.due("laid, law " + law, x.laid(0, 1, -1), Due.FULL);
        }
    }

    private static void nothingLies() {
        HeapEnds x = cloths(0);
        dueBest("none", x, 0, 0, Due.NONE);
        Due.due("pass", x.passBy(0, 1), 0);
        Due.due("laid", x.laid(0, 1, -1), 0);
        Due.due("laid 0", x.laid(0, 1, 0), Due.NONE);
        Due.due("ring", x.ring(0, 1, 0), Due.NONE);
        Due.due("ring cut", x.ring(0, 1, 1), Due.NONE);
        Due.due("ring what 2", x.ring(0, 1, 2), Due.BAD);
    }
}
