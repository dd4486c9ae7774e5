/** Promises 29 to 32, KINDS and ASKS: each sentence that tells of an edge, by itself. */
public final class AskedEdgesTest {
    private static final int LEAST = Integer.MIN_VALUE;
    private static final int MOST = Integer.MAX_VALUE;

    public static void main(String[] args) {
        kindTold();
        kindBad();
        kindsOfKinds();
        asBad();
        asKind();
        bodies();
        nearestBody();
        askedOnce();
        leastAndGreatest();
        ofTheSameWareAnew();
        traceEmptyAhead();
        traceStays();
        askBad();
        traceFirst();
        traceNone();
        Due.end("AskedEdgesTest");
    }

    /** One ware of each sort: its number, WORTH and AGE are 0 1 2, 1 2 3, .. 4 5 6. */
    private static HeapEnds wares() {
        return Due.read("law 0;buyer 0 99;ware fruit 1 2;ware melon 2 3;ware berry 3 4;ware cloth 4 5;ware silk 5 6;");
    }

    private static void kindTold() {
        Due.sentence("Promise 29, kind", "The KIND of a WARE, as told, as laid (1 to 5).");
        HeapEnds x = wares();
        for (int kind = 1; kind <= 5; kind++) {
            Due.due("as told: kind(" + (kind - 1) + ")", x.kind(kind - 1), kind);
        }
        for (int kind = 5; kind >= 1; kind--) {
            x.lay(kind, 0, kind % 2);
        }
        for (int ware = 5; ware < 10; ware++) {
            Due.due("as laid: kind(" + ware + ")", x.kind(ware), 10 - ware);
        }
        x.take(0, 0);
        Due.due("of one taken: kind(6)", x.kind(6), 4);
    }

    private static void kindBad() {
        Due.sentence("Promise 29, kind", "BAD.");
        for (int ware : new int[] {-1, 5, 16, LEAST, MOST}) {
            Twins.dueBad("kind(" + ware + ")", x -> x.kind(ware));
        }
        Twins.dueRefused(Twins::bare, "no MARKET: kind(0)", x -> x.kind(0), Due.BAD);
        Due.due("the last of 16", sixteen().kind(15), 5);
        Due.due("behind the last of 16", sixteen().kind(16), Due.BAD);
    }

    private static HeapEnds sixteen() {
        HeapEnds x = Due.read("law 0;" + "ware melon 30 9;".repeat(10));
        for (int ware = 10; ware < 16; ware++) {
            x.lay(5, 30, 1);
        }
        return x;
    }

    private static void kindsOfKinds() {
        Due.sentence("Terms, 3 FORETOLD", "KINDS of WARES: 0 WARE; 1 FRUIT, a WARE; 2 MELON, a FRUIT; 3 BERRY, a FRUIT; 4 CLOTH, a WARE; 5 SILK, a CLOTH.");
        boolean[][] such = {
            {true, true, false, false, false, false},
            {true, true, true, false, false, false},
            {true, true, false, true, false, false},
            {true, false, false, false, true, false},
            {true, false, false, false, true, true},
        };
        for (int ware = 0; ware < 5; ware++) {
            for (int kind = 0; kind <= 5; kind++) {
                HeapEnds x = wares();
                x.drop(0);
                Due.due("as(" + ware + ", " + kind + ")", x.as(ware, kind), such[ware][kind] ? ware : Due.KIND);
                Due.due("status()", x.status(), such[ware][kind] ? 0 : 3);
            }
        }
    }

    private static void asBad() {
        Due.sentence("Promise 30, as", "A WARE is taken as one of a KIND (0 .. 5): the WARE's number. BAD;");
        for (int ware : new int[] {-1, 5, 16, LEAST, MOST}) {
            Twins.dueBad("as(" + ware + ", 0)", x -> x.as(ware, 0));
        }
        for (int kind : new int[] {-1, 6, LEAST, MOST}) {
            Twins.dueBad("as(0, " + kind + ")", x -> x.as(0, kind));
        }
        Twins.dueBad("BAD ahead of KIND: as(5, 2)", x -> x.as(5, 2));
        Twins.dueRefused(Twins::bare, "no MARKET: as(0, 0)", x -> x.as(0, 0), Due.BAD);
        Due.due("the last of 16: as(15, 4)", sixteen().as(15, 4), 15);
        Twins.dueNoChange(Twins::shop, "of one taken: as(0, 1)", x -> x.as(0, 1), 0, 0);
    }

    private static void asKind() {
        Due.sentence("Promise 30, as", "KIND: it is no such one.");
        Twins.dueFound("as(0, 2)", x -> x.as(0, 2), Due.KIND);
        Twins.dueFound("as(0, 4)", x -> x.as(0, 4), Due.KIND);
        Twins.dueFound("as(1, 5)", x -> x.as(1, 5), Due.KIND);
        Twins.dueFound("as(4, 1)", x -> x.as(4, 1), Due.KIND);
    }

    private static void dueAsk(HeapEnds x, int ware, int what, int answer, int... trace) {
        String ask = "ask(" + ware + ", " + what + ")";
        Due.due(ask, x.ask(ware, what), answer);
        for (int i = 0; i < trace.length; i++) {
            Due.due(ask + ", trace(" + i + ")", x.trace(i), trace[i]);
        }
        Due.due(ask + ", trace(" + trace.length + ")", x.trace(trace.length), Due.NONE);
    }

    private static void bodies() {
        HeapEnds x = wares();
        Due.sentence("Terms, 4 ASKS", "11 of FRUITS: what 10 gives, and MARK.");
        dueAsk(x, 0, 0, 1 + (0 + 2), 11, 10, 21, 20);
        Due.sentence("Terms, 4 ASKS", "12 of MELONS: 0 less what 11 gives.");
        dueAsk(x, 1, 0, -(2 + 2 * (1 + 3)), 12, 11, 10, 24, 21, 20);
        Due.sentence("Terms, 4 ASKS", "13 of CLOTHS: what 10 gives, less 100.");
        dueAsk(x, 3, 0, 4 - 100, 13, 10);
        Due.sentence("Terms, 4 ASKS", "14 of SILKS: twice what 13 gives (asked once).");
        dueAsk(x, 4, 0, 2 * (5 - 100), 14, 13, 10);
        Due.sentence("Terms, 4 ASKS", "21 of FRUITS: what 20 gives, and AGE.");
        dueAsk(x, 0, 1, 0 + 2, 21, 20);
        Due.sentence("Terms, 4 ASKS", "22 of BERRIES: what 21 gives, less 1000.");
        dueAsk(x, 2, 1, 2 + 4 - 1000, 22, 21, 20);
        Due.sentence("Terms, 4 ASKS", "23 of CLOTHS: what 20 gives, less SIZE.");
        dueAsk(x, 3, 1, 3 - (4 - 100), 23, 20, 13, 10);
        Due.sentence("Terms, 4 ASKS", "24 of MELONS: twice what 21 gives (asked once).");
        dueAsk(x, 1, 1, 2 * (1 + 3), 24, 21, 20);
    }

    private static void nearestBody() {
        Due.sentence("Terms, 4 ASKS", "else that of the nearest KIND that it is, too");
        HeapEnds x = wares();
        dueAsk(x, 2, 0, 3 + (2 + 4 - 1000), 11, 10, 22, 21, 20);
        dueAsk(x, 4, 1, 4 - 2 * (5 - 100), 23, 20, 14, 13, 10);
    }

    private static void askedOnce() {
        Due.sentence("Terms, 4 ASKS (twice is no asking twice)", "(asked once)");
        HeapEnds x = wares();
        x.ask(4, 0);
        Due.due("of silk: trace(2)", x.trace(2), 10);
        Due.due("of silk: trace(3)", x.trace(3), Due.NONE);
        x.ask(1, 1);
        Due.due("of a melon: trace(2)", x.trace(2), 20);
        Due.due("of a melon: trace(3)", x.trace(3), Due.NONE);
    }

    private static void leastAndGreatest() {
        Due.sentence("Terms, 4 ASKS (the least and the greatest numbers)", "10 lent to all WARES: WORTH.");
        HeapEnds x = Due.read("law 0;ware fruit 0 0;ware melon 0 0;ware berry 0 0;ware cloth 0 0;ware silk 0 0;");
        int[][] due = {{0, 0}, {-2, 2}, {2 - 1000, 2 - 1000}, {-100, 103}, {-200, 204}};
        for (int ware = 0; ware < 5; ware++) {
            for (int what = 0; what < 2; what++) {
                Due.due("ask(" + ware + ", " + what + ")", x.ask(ware, what), due[ware][what]);
            }
        }
        HeapEnds most = sixteen();
        dueAsk(most, 9, 0, -(30 + 2 * (9 + 9)), 12, 11, 10, 24, 21, 20);
        dueAsk(most, 15, 1, 15 - 2 * (30 - 100), 23, 20, 14, 13, 10);
        Due.sentence("Terms, 4 ASKS", "20 lent to all WARES: its number");
        dueAsk(most, 0, 1, 2 * 9, 24, 21, 20);
    }

    private static void ofTheSameWareAnew() {
        Due.sentence("Terms, 4 ASKS", "SIZE, MARK within others are asked of the same WARE anew");
        HeapEnds x = Twins.shop();
        dueAsk(x, 3, 0, 9 + (3 + 3 - 1000), 11, 10, 22, 21, 20);
        x.day();
        dueAsk(x, 3, 0, 9 + (3 + 4 - 1000), 11, 10, 22, 21, 20);
        Due.sentence("Promise 13, ware (in an ask, too)", "1 AGE (as it was taken)");
        dueAsk(x, 0, 1, 0 + 1, 21, 20);
    }

    private static void traceEmptyAhead() {
        Due.sentence("Promise 31, ask", "THE TRACE is empty ahead of it.");
        HeapEnds x = wares();
        x.ask(1, 0);
        dueAsk(x, 3, 0, 4 - 100, 13, 10);
        for (int i = 2; i < 17; i++) {
            Due.due("trace(" + i + ")", x.trace(i), Due.NONE);
        }
        for (int i = 0; i < 5; i++) {
            x.ask(1, 0);
        }
        dueAsk(x, 1, 0, -(2 + 2 * (1 + 3)), 12, 11, 10, 24, 21, 20);
    }

    private static void traceStays() {
        Due.sentence("Promise 31, ask", "BAD (THE TRACE stays then).");
        HeapEnds x = wares();
        x.ask(4, 1);
        x.ask(5, 0);
        x.ask(0, 2);
        x.ask(-1, -1);
        int[] due = {23, 20, 14, 13, 10, Due.NONE};
        for (int i = 0; i < due.length; i++) {
            Due.due("trace(" + i + ")", x.trace(i), due[i]);
        }
    }

    private static void askBad() {
        Due.sentence("Promise 31, ask", "An ASK (0, 1) of a WARE. BAD");
        for (int ware : new int[] {-1, 5, 16, LEAST, MOST}) {
            Twins.dueBad("ask(" + ware + ", 0)", x -> x.ask(ware, 0));
            Twins.dueBad("ask(" + ware + ", 1)", x -> x.ask(ware, 1));
        }
        for (int what : new int[] {-1, 2, LEAST, MOST}) {
            Twins.dueBad("ask(0, " + what + ")", x -> x.ask(0, what));
        }
        Twins.dueRefused(Twins::bare, "no MARKET: ask(0, 0)", x -> x.ask(0, 0), Due.BAD);
    }

    private static void traceFirst() {
        Due.sentence("Terms, 4 ASKS", "each of which leaves its number in THE TRACE as it begins (the first 16)");
        HeapEnds x = wares();
        x.ask(1, 0);
        int[] due = {12, 11, 10, 24, 21, 20};
        for (int i = 0; i < 6; i++) {
            Due.due("trace(" + i + ")", x.trace(i), due[i]);
        }
        for (int i = 6; i < 17; i++) {
            Due.due("no ASK begins more than six: trace(" + i + ")", x.trace(i), Due.NONE);
        }
    }

    private static void traceNone() {
        Due.sentence("Promise 32, trace", "Number i of THE TRACE; NONE.");
        for (int i : new int[] {-1, 0, 15, 16, LEAST, MOST}) {
            Due.due("at first: trace(" + i + ")", new HeapEnds().trace(i), Due.NONE);
            if (i != 0) {
                Twins.dueNoChange(Twins::shop, "trace(" + i + ")", x -> x.trace(i), Due.NONE, 2);
            }
        }
        Twins.dueNoChange(Twins::shop, "trace(4)", x -> x.trace(4), 10, 2);
        Twins.dueNoChange(Twins::shop, "trace(5)", x -> x.trace(5), Due.NONE, 2);
    }
}
