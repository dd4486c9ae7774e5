/** Promises 29 to 32. */
public final class AskedTest {
    public static void main(String[] args) {
        kind();
        as();
        ask();
        askLater();
        refused();
        Due.end("AskedTest");
    }

    private static HeapEnds wares() {
        return Due.read("law 0;buyer 0 99;ware fruit 6 1;ware melon 4 3;ware berry 9 2;ware cloth 5 0;ware silk 2 7;");
    }

    private static void kind() {
        HeapEnds x = wares();
        for (int ware = 0; ware < 5; ware++) {
            Due.due("kind " + ware, x.kind(ware), ware + 1);
        }
        x.lay(3, 1, 0);
        Due.due("as laid", x.kind(5), 3);
        x.take(0, 0);
        Due.due("of one taken", x.kind(5), 3);
        Due.due("kind -1", x.kind(-1), Due.BAD);
        Due.due("kind 6", x.kind(6), Due.BAD);
    }

    private static void as() {
        HeapEnds x = wares();
        boolean[][] such = {
            {true, true, false, false, false, false},
            {true, true, true, false, false, false},
            {true, true, false, true, false, false},
            {true, false, false, false, true, false},
            {true, false, false, false, true, true},
        };
        for (int ware = 0; ware < 5; ware++) {
            for (int kind = 0; kind <= 5; kind++) {
                Due.due(ware + " as " + kind, x.as(ware, kind), such[ware][kind] ? ware : Due.KIND);
                Due.due("status of it", x.status(), such[ware][kind] ? 0 : 3);
            }
        }
        Due.due("ware -1", x.as(-1, 0), Due.BAD);
        Due.due("ware 5", x.as(5, 0), Due.BAD);
        Due.due("kind -1", x.as(0, -1), Due.BAD);
        Due.due("kind 6", x.as(0, 6), Due.BAD);
    }

    private static void dueAsk(HeapEnds x, int ware, int what, int answer, int... trace) {
        String ask = "ask(" + ware + ", " + what + ")";
        Due.due(ask, x.ask(ware, what), answer);
        for (int i = 0; i < trace.length; i++) {
            Due.due(ask + ": trace " + i, x.trace(i), trace[i]);
        }
        Due.due(ask + ": no more", x.trace(trace.length), Due.NONE);
    }

    private static void ask() {
        HeapEnds x = wares();
        dueAsk(x, 0, 0, 6 + (0 + 1), 11, 10, 21, 20);
        dueAsk(x, 1, 0, -(4 + 2 * (1 + 3)), 12, 11, 10, 24, 21, 20);
        dueAsk(x, 2, 0, 9 + (2 + 2 - 1000), 11, 10, 22, 21, 20);
        dueAsk(x, 3, 0, 5 - 100, 13, 10);
        dueAsk(x, 4, 0, 2 * (2 - 100), 14, 13, 10);
        dueAsk(x, 0, 1, 0 + 1, 21, 20);
        dueAsk(x, 1, 1, 2 * (1 + 3), 24, 21, 20);
        dueAsk(x, 2, 1, 2 + 2 - 1000, 22, 21, 20);
        dueAsk(x, 3, 1, 3 - (5 - 100), 23, 20, 13, 10);
        dueAsk(x, 4, 1, 4 - 2 * (2 - 100), 23, 20, 14, 13, 10);
    }

    private static void askLater() {
        HeapEnds x = wares();
        x.take(0, 0);
        x.day();
        dueAsk(x, 0, 1, 1, 21, 20);
        dueAsk(x, 1, 1, 2 * (1 + 4), 24, 21, 20);
        x.lay(2, 30, 1);
        dueAsk(x, 5, 0, -(30 + 2 * 5), 12, 11, 10, 24, 21, 20);
        Due.readInto(x, "law 0;");
        Due.due("another market leaves the trace", x.trace(3), 24);
    }

    private static void refused() {
        HeapEnds x = wares();
        Due.due("empty", x.trace(0), Due.NONE);
        x.ask(3, 0);
        Due.due("ware -1", x.ask(-1, 0), Due.BAD);
        Due.due("ware 5", x.ask(5, 0), Due.BAD);
        Due.due("what -1", x.ask(0, -1), Due.BAD);
        Due.due("what 2", x.ask(0, 2), Due.BAD);
        Due.due("the trace stays: 0", x.trace(0), 13);
        Due.due("the trace stays: 1", x.trace(1), 10);
        Due.due("the trace stays: 2", x.trace(2), Due.NONE);
        Due.due("trace -1", x.trace(-1), Due.NONE);
        Due.due("trace 16", x.trace(16), Due.NONE);
        Due.due("trace most", x.trace(Integer.MAX_VALUE), Due.NONE);
        Due.due("trace least", x.trace(Integer.MIN_VALUE), Due.NONE);
    }
}
