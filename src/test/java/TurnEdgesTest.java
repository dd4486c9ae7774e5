/** Promises 16 to 19: each sentence that tells of an edge, by itself. */
public final class TurnEdgesTest {
    private static final int LEAST = Integer.MIN_VALUE;
    private static final int MOST = Integer.MAX_VALUE;

    public static void main(String[] args) {
        buyersBad();
        whatBad();
        bestOfNothing();
        bestOfOne();
        allWares();
        turnsOneEach();
        turnsTwoEach();
        likeOnesOfA();
        likeOnesOfB();
        nobodyPays();
        valuesOfToday();
        passOfLittle();
        passOnce();
        passOfAAlone();
        passWhereMore();
        passKnown();
        passAtAnyTurn();
        passAsIfTaken();
        passZeroAtLeast();
        laidOfNothing();
        laidPlaces();
        laidFull();
        laidAsTheyLie();
        laidFirstByNumbers();
        ringOfNothing();
        ringCuts();
        ringEnds();
        ringLeastOfSeveral();
        nothingChanges();
        foretoldAnew();
        Due.end("TurnEdgesTest");
    }

    /** "f2 c3" is a fruit of WORTH 2, twice that to 0, and a cloth of WORTH 3, twice that to 1, both of AGE 0. */
    private static HeapEnds heap(int law, String wares) {
        StringBuilder text = new StringBuilder("law " + law + ";buyer 1 0;buyer 4 0;");
        for (String ware : wares.isEmpty() ? new String[0] : wares.split(" ")) {
            text.append(ware.charAt(0) == 'f' ? "ware fruit " : "ware cloth ").append(ware.substring(1)).append(" 0;");
        }
        return Due.read(text.toString());
    }

    /** So many wares of cloth of WORTH 1, which is 1 to each of both. */
    private static HeapEnds alike(int law, int wares) {
        int told = Math.min(10, wares);
        HeapEnds x = Due.read("law " + law + ";buyer 1 0;buyer 1 0;" + "ware cloth 1 0;".repeat(told));
        for (int ware = told; ware < wares; ware++) {
            x.lay(4, 1, ware % 2);
        }
        return x;
    }

    private static void dueBest(HeapEnds x, int a, int b, int gainA, int gainB, int end) {
        String pair = "best(" + a + ", " + b + ", ";
        Due.due(pair + "0)", x.best(a, b, 0), gainA);
        Due.due(pair + "1)", x.best(a, b, 1), gainB);
        Due.due(pair + "2)", x.best(a, b, 2), end);
    }

    private static void dueBadPair(Twins.Maker maker, int a, int b) {
        String pair = "(" + a + ", " + b;
        Due.sentence("Promise 16, best", "BAD: BUYERS, alike, too; what.");
        for (int what = 0; what <= 2; what++) {
            int w = what;
            Twins.dueRefused(maker, "best" + pair + ", " + what + ")", x -> x.best(a, b, w), Due.BAD);
        }
        Due.sentence("Promise 17, passBy", "BAD: BUYERS, alike, too.");
        Twins.dueRefused(maker, "passBy" + pair + ")", x -> x.passBy(a, b), Due.BAD);
        Due.sentence("Promise 18, laid", "BAD: BUYERS, alike, too; k below -1;");
        for (int k : new int[] {-1, 0, 99}) {
            Twins.dueRefused(maker, "laid" + pair + ", " + k + ")", x -> x.laid(a, b, k), Due.BAD);
        }
        Due.sentence("Promise 19, ring", "BAD: BUYERS, alike, too; what.");
        Twins.dueRefused(maker, "ring" + pair + ", 0)", x -> x.ring(a, b, 0), Due.BAD);
        Twins.dueRefused(maker, "ring" + pair + ", 1)", x -> x.ring(a, b, 1), Due.BAD);
    }

    private static void buyersBad() {
        int[][] wrong = {{-1, 0}, {0, -1}, {2, 0}, {0, 2}, {4, 0}, {0, 4}, {LEAST, 0}, {0, LEAST}, {MOST, 0}, {0, MOST},
            {0, 0}, {1, 1}, {2, 2}, {-1, -1}};
        for (int[] pair : wrong) {
            dueBadPair(Twins::shop, pair[0], pair[1]);
        }
        dueBadPair(Twins::bare, 0, 1);
        Twins.Maker one = () -> Due.read("law 0;buyer 0 0;ware silk 1 1;");
        dueBadPair(one, 0, 0);
        dueBadPair(one, 0, 1);
        dueBadPair(one, 1, 0);
        Due.sentence("Terms, 3 FORETOLD", "BEST of two unlike BUYERS a, b");
        HeapEnds x = Due.read("law 0;buyer 0 0;buyer 1 0;buyer 2 0;buyer 3 0;ware berry 5 0;ware melon 5 0;");
        for (int a = 0; a < 4; a++) {
            for (int b = 0; b < 4; b++) {
                if (a != b) {
                    Due.due("best(" + a + ", " + b + ", 0)", x.best(a, b, 0), 10);
                    Due.due("passBy(" + a + ", " + b + ")", x.passBy(a, b), 0);
                    Due.due("laid(" + a + ", " + b + ", -1)", x.laid(a, b, -1), 10);
                    Due.due("ring(" + a + ", " + b + ", 0)", x.ring(a, b, 0), 10);
                }
            }
        }
    }

    private static void whatBad() {
        Due.sentence("Promise 16, best", "BAD: BUYERS, alike, too; what.");
        for (int what : new int[] {-1, 3, LEAST, MOST}) {
            Twins.dueBad("best(0, 1, " + what + ")", x -> x.best(0, 1, what));
        }
        Twins.dueRefused(() -> heap(0, ""), "nothing lies: best(0, 1, 3)", x -> x.best(0, 1, 3), Due.BAD);
        Due.sentence("Promise 18, laid", "k below -1");
        for (int k : new int[] {-2, LEAST}) {
            Twins.dueBad("laid(0, 1, " + k + ")", x -> x.laid(0, 1, k));
        }
        Twins.dueRefused(() -> heap(0, ""), "nothing lies: laid(0, 1, -2)", x -> x.laid(0, 1, -2), Due.BAD);
        Due.sentence("Promise 19, ring", "BAD: BUYERS, alike, too; what.");
        for (int what : new int[] {-1, 2, LEAST, MOST}) {
            Twins.dueBad("ring(0, 1, " + what + ")", x -> x.ring(0, 1, what));
        }
        Twins.dueRefused(() -> heap(0, ""), "nothing lies: ring(0, 1, 2)", x -> x.ring(0, 1, 2), Due.BAD);
    }

    private static void bestOfNothing() {
        Due.sentence("Promise 16, best", "the end that a takes first (2; NONE: THE HEAP is empty)");
        for (int law = 0; law < 2; law++) {
            dueBest(heap(law, ""), 0, 1, 0, 0, Due.NONE);
            HeapEnds x = heap(law, "c0");
            x.take(0, 0);
            dueBest(x, 1, 0, 0, 0, Due.NONE);
            x.undo();
            dueBest(x, 1, 0, 0, 0, 0);
        }
    }

    private static void bestOfOne() {
        Due.sentence("Promise 16, best (one WARE)", "what a GAINS (what = 0), b (1)");
        for (int law = 0; law < 2; law++) {
            dueBest(heap(law, "c7"), 0, 1, 7, 0, 0);
            dueBest(heap(law, "c7"), 1, 0, 14, 0, 0);
            dueBest(heap(law, "c0"), 0, 1, 0, 0, 0);
            dueBest(heap(law, "c30 c29"), 0, 1, 30, 58, 0);
            dueBest(heap(law, "c29 c30"), 0, 1, 30, 58, 1);
        }
    }

    private static void allWares() {
        Due.sentence("Terms, 3 FORETOLD", "they take all WARES of THE HEAP by TURNS, a first");
        // Neither likes any of these, so that both together have the VALUE of all that lie.
        for (int law = 0; law < 2; law++) {
            HeapEnds x = Due.read("law " + law + ";buyer 5 0;buyer 3 99;ware fruit 1 0;ware cloth 2 0;ware fruit 4 0;ware cloth 8 0;");
            for (int what = 0; what < 4; what++) {
                int lie = 15 >> what << what;
                Due.due("a and b, of " + lie, x.best(0, 1, 0) + x.best(0, 1, 1), lie);
                Due.due("a alone has nothing", x.best(0, 1, 1) == lie ? 1 : 0, 0);
                x.take(1, 0);
            }
        }
        HeapEnds y = heap(0, "c3 c9");
        dueBest(y, 0, 1, 9, 6, 1);
        dueBest(y, 1, 0, 18, 3, 1);
    }

    private static void turnsOneEach() {
        Due.sentence("Terms, 3 FORETOLD", "TURN 0: one each, a, b, a, b");
        for (int n = 0; n <= 16; n++) {
            dueBest(alike(0, n), 0, 1, (n + 1) / 2, n / 2, n == 0 ? Due.NONE : 0);
        }
    }

    private static void turnsTwoEach() {
        Due.sentence("Terms, 3 FORETOLD", "TURN 1: a one, then two each: a, b, b, a, a, b, b");
        int[] gainA = {0, 1, 1, 1, 2, 3, 3, 3, 4, 5, 5, 5, 6, 7, 7, 7, 8};
        for (int n = 0; n <= 16; n++) {
            dueBest(alike(1, n), 0, 1, gainA[n], n - gainA[n], n == 0 ? Due.NONE : 0);
        }
    }

    private static void likeOnesOfA() {
        Due.sentence("Terms, 3 FORETOLD", "takes at each TURN the end by which he GAINS most in all from then on, of like ones the left one");
        // To a both are 2; what he leaves is 4 or 1 to b.
        dueBest(heap(0, "f1 c2"), 0, 1, 2, 4, 0);
        dueBest(heap(0, "c2 f1"), 0, 1, 2, 1, 0);
        dueBest(heap(1, "f1 c2"), 0, 1, 2, 4, 0);
        dueBest(heap(0, "c0 c0 c0"), 0, 1, 0, 0, 0);
        dueBest(heap(0, "c5 c4 c5"), 0, 1, 9, 10, 0);
    }

    private static void likeOnesOfB() {
        Due.sentence("Terms, 3 FORETOLD (b's TURN)", "of like ones the left one");
        // Behind c10 both are 4 to b, who takes the left; the right is 2 to a, the left would be 8.
        dueBest(heap(0, "c10 f4 c2"), 0, 1, 12, 4, 0);
        // Of c2 f4 he takes the left, too, which leaves 8.
        dueBest(heap(0, "c10 c2 f4"), 0, 1, 18, 4, 0);
        dueBest(heap(1, "c10 f4 c2"), 0, 1, 10, 8, 0);
    }

    private static void nobodyPays() {
        Due.sentence("Terms, 3 FORETOLD", "nobody PAYS, whatever is in PURSES");
        HeapEnds x = heap(0, "c9 f30 c30");
        Due.due("with empty PURSES: best(0, 1, 0)", x.best(0, 1, 0), 60 + 9);
        Due.due("best(0, 1, 1)", x.best(0, 1, 1), 60);
        Due.due("take(0, 0)", x.take(0, 0), Due.STATE);
        Due.due("ring(0, 1, 0)", x.ring(0, 1, 0), 69);
        Due.due("laid(0, 1, -1)", x.laid(0, 1, -1), 69);
        Due.due("buyer(0, 1)", x.buyer(0, 1), 0);
    }

    private static void valuesOfToday() {
        Due.sentence("Terms, 3 FORETOLD", "no DAY goes by but where told");
        HeapEnds x = Due.read("law 0;buyer 1 0;buyer 1 0;ware melon 3 4;ware berry 7 0;ware fruit 5 1;ware silk 5 2;");
        // 7 7 4 to both, twice that, and 5: no DAY between the takes.
        dueBest(x, 0, 1, 14 + 8, 14 + 5, 0);
        Due.due("count(4)", x.count(4), 0);
        x.day();
        // 8 5 3, twice that, and 6.
        dueBest(x, 0, 1, 16 + 6, 10 + 6, 0);
    }

    private static void passOfLittle() {
        Due.sentence("Terms, 3 FORETOLD (nothing, or one WARE, lies)", "0 at least");
        for (int law = 0; law < 2; law++) {
            for (String wares : new String[] {"", "c0", "c9", "f9"}) {
                Due.due("passBy(0, 1) of " + wares, heap(law, wares).passBy(0, 1), 0);
                Due.due("passBy(1, 0) of " + wares, heap(law, wares).passBy(1, 0), 0);
            }
        }
        Due.due("16, one each", alike(0, 16).passBy(0, 1), 0);
        Due.due("16, two each", alike(1, 16).passBy(0, 1), 0);
    }

    private static void passOnce() {
        Due.sentence("Terms, 3 FORETOLD", "PASS: once a may let one of his TURNS go by");
        // The middle, 8, falls to a behind a pass; in the others two passes would give more.
        Due.due("f0 f4 c0", heap(0, "f0 f4 c0").passBy(0, 1), 8);
        Due.due("f2 f4 c2 c1 f4 f1", heap(0, "f2 f4 c2 c1 f4 f1").passBy(0, 1), 0);
        Due.due("f2 f3 f0 c1 f3 c1", heap(0, "f2 f3 f0 c1 f3 c1").passBy(0, 1), 0);
        Due.due("two each: c2 f4 c4 c3 f2 c0", heap(1, "c2 f4 c4 c3 f2 c0").passBy(0, 1), 1);
    }

    private static void passOfAAlone() {
        Due.sentence("Terms, 3 FORETOLD (b may not)", "PASS: once a may let one of his TURNS go by");
        Due.due("c1 c2 c0", heap(0, "c1 c2 c0").passBy(0, 1), 1);
        Due.due("f0 f4 c0", heap(0, "f0 f4 c0").passBy(0, 1), 8);
        Due.due("two each: c3 f2 c3", heap(1, "c3 f2 c3").passBy(0, 1), 1);
        Due.due("two each: f2 c3 f3 f4", heap(1, "f2 c3 f3 f4").passBy(0, 1), 2);
    }

    private static void passWhereMore() {
        Due.sentence("Terms, 3 FORETOLD", "where he GAINS more by that than by either end");
        // Were he to pass, too, where it is as good as an end, b would take otherwise, and a have 1 more.
        Due.due("c1 c0 c4 f2 f4", heap(0, "c1 c0 c4 f2 f4").passBy(0, 1), 0);
        Due.due("two each: f1 c2 c4 f6 c1 f2 c4", heap(1, "f1 c2 c4 f6 c1 f2 c4").passBy(0, 1), 0);
    }

    private static void passKnown() {
        Due.sentence("Terms, 3 FORETOLD (of the pass, too)", "each, knowing all, takes at each TURN the end");
        Due.due("f4 f0 c2 f0 f3", heap(0, "f4 f0 c2 f0 f3").passBy(0, 1), 6);
        Due.due("two each: f5 c0 c4 c2 f3 c2 c3", heap(1, "f5 c0 c4 c2 f3 c2 c3").passBy(0, 1), 0);
    }

    private static void passAtAnyTurn() {
        Due.sentence("Terms, 3 FORETOLD (not the first TURN alone)", "one of his TURNS");
        Due.due("f4 c1 c4 c1 c4", heap(0, "f4 c1 c4 c1 c4").passBy(0, 1), 3);
        Due.due("two each: c4 f2 f0 f6 c6 f6 c5", heap(1, "c4 f2 f0 f6 c6 f6 c5").passBy(0, 1), 6);
    }

    private static void passAsIfTaken() {
        Due.sentence("Terms, 3 FORETOLD (one TURN of his two)", "as if he had taken (nothing is taken)");
        Due.due("two each: c5 f0 f3 c4 f6 c4 f0", heap(1, "c5 f0 f3 c4 f6 c4 f0").passBy(0, 1), 2);
        // a passes, b takes both 4, one of which is 8 to him: the middle falls to a.
        Due.due("two each: c4 f4 c4", heap(1, "c4 f4 c4").passBy(0, 1), 4);
    }

    private static void passZeroAtLeast() {
        Due.sentence("Terms, 3 FORETOLD", "how much more a GAINS in all than by BEST without it, 0 at least");
        // b, knowing of the pass, takes otherwise, and a would have 1 less.
        Due.due("c4 f2 f4 c2 c1", heap(0, "c4 f2 f4 c2 c1").passBy(0, 1), 0);
        Due.due("nothing by it: c1 c9", heap(0, "c1 c9").passBy(0, 1), 0);
    }

    private static void dueLaid(HeapEnds x, int gain, int... wares) {
        Due.due("laid(0, 1, -1)", x.laid(0, 1, -1), gain);
        for (int k = 0; k < wares.length; k++) {
            Due.due("laid(0, 1, " + k + ")", x.laid(0, 1, k), wares[k]);
        }
        Due.due("laid(0, 1, " + wares.length + ")", x.laid(0, 1, wares.length), Due.NONE);
    }

    private static void laidOfNothing() {
        Due.sentence("Promise 18, laid", "what a GAINS (k = -1), the WARE at place k; NONE: not so many.");
        for (int law = 0; law < 2; law++) {
            HeapEnds x = heap(law, "");
            dueLaid(x, 0);
            Due.due("laid(0, 1, MOST)", x.laid(0, 1, MOST), Due.NONE);
            dueLaid(heap(law, "c7"), 7, 0);
        }
    }

    private static void laidPlaces() {
        Due.sentence("Promise 18, laid", "NONE: not so many");
        HeapEnds x = heap(0, "c1 c1 c1 c1 c1 c1");
        Due.due("the last place: laid(0, 1, 5)", x.laid(0, 1, 5), 5);
        Due.due("laid(0, 1, 6)", x.laid(0, 1, 6), Due.NONE);
        Due.due("laid(0, 1, 7)", x.laid(0, 1, 7), Due.NONE);
        Due.due("laid(0, 1, MOST)", x.laid(0, 1, MOST), Due.NONE);
    }

    private static void laidFull() {
        Due.sentence("Promise 18, laid", "FULL: more than 6 WARES lie.");
        Twins.Maker seven = () -> heap(0, "c0 c1 c1 c1 c1 c1 c1");
        Twins.dueRefused(seven, "laid(0, 1, -1)", x -> x.laid(0, 1, -1), Due.FULL);
        Twins.dueRefused(seven, "laid(0, 1, 0)", x -> x.laid(0, 1, 0), Due.FULL);
        Twins.dueRefused(seven, "laid(0, 1, 7)", x -> x.laid(0, 1, 7), Due.FULL);
        Twins.dueRefused(() -> alike(0, 16), "laid(0, 1, -1) of 16", x -> x.laid(0, 1, -1), Due.FULL);
        Due.sentence("Terms (laid: BAD ahead of FULL)", "Refusals are answers, the first of these that fits");
        Twins.dueRefused(seven, "laid(0, 1, -2)", x -> x.laid(0, 1, -2), Due.BAD);
        Twins.dueRefused(seven, "laid(1, 1, 0)", x -> x.laid(1, 1, 0), Due.BAD);
        Due.sentence("Terms, 3 FORETOLD", "LAID: the WARES that lie (6 at most)");
        HeapEnds x = seven.make();
        x.take(0, 0);
        dueLaid(x, 3, 1, 2, 3, 4, 5, 6);
        x.undo();
        Due.due("seven again: laid(0, 1, -1)", x.laid(0, 1, -1), Due.FULL);
    }

    private static void laidAsTheyLie() {
        Due.sentence("Terms, 3 FORETOLD", "in some order (also as they lie), so that a GAINS most by BEST");
        HeapEnds x = heap(0, "c4 c2 c9");
        Due.due("best(0, 1, 0)", x.best(0, 1, 0), 11);
        dueLaid(x, 11, 0, 1, 2);
        HeapEnds y = heap(0, "c7 c8");
        dueLaid(y, 8, 0, 1);
        dueLaid(heap(1, "f1 f2 c0 c3 f4 c1"), 15, 2, 5, 3, 1, 0, 4);
        dueLaid(heap(0, "f2 c3 c2 f4 f0"), 14, 3, 4, 2, 1, 0);
    }

    private static void laidFirstByNumbers() {
        Due.sentence("Terms, 3 FORETOLD", "of several rows the first by numbers of WARES");
        for (int n = 1; n <= 6; n++) {
            HeapEnds x = Due.read("law 0;buyer 1 0;buyer 4 0;");
            int[] numbers = new int[n];
            for (int ware = 0; ware < n; ware++) {
                x.lay(4, 1, 0);
                numbers[ware] = ware;
            }
            Due.due("the greatest number lies leftmost", x.ware(n - 1, 3), 0);
            dueLaid(x, (n + 1) / 2, numbers);
        }
        HeapEnds nothing = heap(1, "f1 f2 c0 c3 f4 c1");
        Due.due("laid(0, 1, 0)", nothing.laid(0, 1, 0), 2);
        Due.readInto(nothing, "law 0;buyer 1 0;buyer 4 0;" + "ware cloth 0 0;".repeat(3));
        dueLaid(nothing, 0, 0, 1, 2);
        HeapEnds y = Due.read("law 0;buyer 1 99;buyer 4 0;" + "ware cloth 0 0;".repeat(10));
        for (int i = 0; i < 10; i++) {
            y.take(0, 0);
        }
        for (int ware = 10; ware < 15; ware++) {
            y.lay(4, ware == 13 ? 9 : 1, ware % 2);
        }
        // Of five the 9 is to be at an end, as b has it otherwise; of all such rows this is the first.
        dueLaid(y, 9 + 2, 10, 11, 12, 14, 13);
    }

    private static void dueRing(HeapEnds x, int gain, int cut) {
        Due.due("ring(0, 1, 0)", x.ring(0, 1, 0), gain);
        Due.due("ring(0, 1, 1)", x.ring(0, 1, 1), cut);
    }

    private static void ringOfNothing() {
        Due.sentence("Promise 19, ring", "what a GAINS (what = 0), c (1); NONE (both): THE HEAP is empty.");
        for (int law = 0; law < 2; law++) {
            HeapEnds x = heap(law, "c0");
            dueRing(x, 0, 0);
            x.take(0, 0);
            dueRing(x, Due.NONE, Due.NONE);
            dueRing(heap(law, ""), Due.NONE, Due.NONE);
            dueRing(heap(law, "c7"), 7, 0);
        }
    }

    /** A cut ahead of the last ware leaves a no more than one ahead of the first or of the last but one. */
    private static void ringCuts() {
        Due.sentence("Terms, 3 FORETOLD", "it is cut ahead of the WARE at place c (0 on, from the left), which is the leftmost then, all others behind it");
        dueRing(heap(0, "f0 c4 f1"), 4, 1);
        dueRing(heap(0, "c3 f3 f5 f3"), 16, 2);
        dueRing(heap(0, "f3 c2 f0 c5 c0"), 11, 3);
        dueRing(heap(0, "c1 c3 f1 f2 f5 c1"), 17, 4);
        dueRing(heap(0, "f3 c2 f4 c4 f4 f5 f1"), 26, 5);
        dueRing(heap(1, "f2 c3 f5 f1 f3 f1"), 20, 4);
        dueRing(heap(1, "c4 f2 c5 f4 f1 f0 c5 c1"), 19, 6);
    }

    private static void ringEnds() {
        Due.sentence("Terms, 3 FORETOLD", "RING: THE HEAP's ends are beside one another");
        HeapEnds x = Due.read("law 0;buyer 1 0;buyer 1 0;ware cloth 2 0;ware cloth 9 0;ware cloth 4 0;");
        // As it lies b has the 9; cut ahead of it the 4 and the 2, which were its ends, lie behind it, side by side.
        Due.due("best(0, 1, 0)", x.best(0, 1, 0), 2 + 4);
        dueRing(x, 9 + 2, 1);
    }

    private static void ringLeastOfSeveral() {
        Due.sentence("Terms, 3 FORETOLD", "the c by which a GAINS most by BEST, the least of several");
        dueRing(heap(0, "c4 c2 c9"), 11, 0);
        dueRing(heap(0, "c4 c9 c2"), 11, 1);
        dueRing(heap(1, "c2 f4 c5"), 8, 1);
        dueRing(alike(0, 16), 8, 0);
        dueRing(alike(1, 15), 7, 0);
        HeapEnds nothing = heap(0, "c3 f3 f5 f3");
        dueRing(nothing, 16, 2);
        Due.readInto(nothing, "law 0;buyer 1 0;buyer 4 0;" + "ware cloth 0 0;".repeat(4));
        dueRing(nothing, 0, 0);
    }

    /** What was foretold before, of other WARES and of the two the other way round, leaves nothing behind. */
    private static void foretoldAnew() {
        Due.sentence("Terms, 3 FORETOLD (nor what is foretold next)", "(nothing changes");
        String[] heaps = {"f30 c29 f28 c27 f26 c25", "f0 f4 c0", "c3 f3 f5 f3", "c1 c2 c0", "f4 c1 c4 c1 c4", "c9", "", "f1 f2 c0 c3 f4 c1",
            "c0 c0", "f0 f4 c0"};
        for (int law = 0; law < 2; law++) {
            HeapEnds x = new HeapEnds();
            for (String wares : heaps) {
                x.market();
                Due.readInto(x, "law " + law + ";buyer 1 0;buyer 4 0;");
                for (String ware : wares.isEmpty() ? new String[0] : wares.split(" ")) {
                    x.lay(ware.charAt(0) == 'f' ? 1 : 4, Integer.parseInt(ware.substring(1)), 1);
                }
                for (int a = 0; a < 2; a++) {
                    String call = "law " + law + ", " + wares + ", a is " + a + ": ";
                    int b = 1 - a;
                    Due.due(call + "passBy", x.passBy(a, b), heap(law, wares).passBy(a, b));
                    Due.due(call + "best 0", x.best(a, b, 0), heap(law, wares).best(a, b, 0));
                    Due.due(call + "best 1", x.best(a, b, 1), heap(law, wares).best(a, b, 1));
                    Due.due(call + "best 2", x.best(a, b, 2), heap(law, wares).best(a, b, 2));
                    Due.due(call + "ring 0", x.ring(a, b, 0), heap(law, wares).ring(a, b, 0));
                    Due.due(call + "ring 1", x.ring(a, b, 1), heap(law, wares).ring(a, b, 1));
                    Due.due(call + "laid -1", x.laid(a, b, -1), heap(law, wares).laid(a, b, -1));
                    Due.due(call + "laid 1", x.laid(a, b, 1), heap(law, wares).laid(a, b, 1));
                }
            }
        }
    }

    private static void nothingChanges() {
        Due.sentence("Terms, 3 FORETOLD", "(nothing changes, nobody PAYS, whatever is in PURSES; no DAY goes by but where told)");
        // To 0: 5, 14, 6, 9; to 1: 10, 28, 3, 18.
        Twins.dueNoChange(Twins::shop, "best(0, 1, 0)", x -> x.best(0, 1, 0), 9 + 14, 2);
        Twins.dueNoChange(Twins::shop, "best(0, 1, 2)", x -> x.best(0, 1, 2), 1, 2);
        Twins.dueNoChange(Twins::shop, "passBy(0, 1)", x -> x.passBy(0, 1), 0, 2);
        Twins.dueNoChange(Twins::shop, "laid(0, 1, 3)", x -> x.laid(0, 1, 3), 4, 2);
        Twins.dueNoChange(Twins::shop, "ring(0, 1, 1)", x -> x.ring(0, 1, 1), 0, 2);
    }
}
