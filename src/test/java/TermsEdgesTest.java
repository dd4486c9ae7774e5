/** What the document says ahead of "1 ROWS", for all calls: numbers, sets, refusals and findings. */
public final class TermsEdgesTest {
    public static void main(String[] args) {
        numbersFromZero();
        setsAreBits();
        refusals();
        badAheadOfState();
        stateAheadOfBad();
        badAheadOfFull();
        refusalsAheadOfFindings();
        thenBad();
        findings();
        changesNothing();
        Due.end("TermsEdgesTest");
    }

    private static void numbersFromZero() {
        Due.sentence("Terms", "Numbers go from 0 on.");
        HeapEnds x = Due.read("law 0;buyer 2 7;buyer 3 8;ware silk 4 0;ware cloth 5 0;");
        Due.due("the first BUYER: buyer(0, 1)", x.buyer(0, 1), 7);
        Due.due("the first WARE: ware(0, 0)", x.ware(0, 0), 4);
        Due.due("its place: ware(0, 3)", x.ware(0, 3), 0);
        Due.due("the next place: ware(1, 3)", x.ware(1, 3), 1);
        Due.due("the DAY: count(4)", x.count(4), 0);
        Due.tell(x, 0, 1, 0);
        Due.due("the first ITEM: judge(0, 0, 1)", x.judge(0, 0, 1), Due.NONE);
        Due.due("the next that lies: lay(1, 1, 0)", x.lay(1, 1, 0), 2);
        Due.due("the first place in what is told: judge(0, 1, 2)", x.judge(0, 1, 1), 0);
        Due.due("an empty TRACE has no number 0: trace(0)", x.trace(0), Due.NONE);
        x.ask(0, 0);
        Due.due("the first of THE TRACE: trace(0)", x.trace(0), 14);
        Due.due("the first take: harvest(0, 0)", x.harvest(0, 0), 0);
        Due.due("the first place: laid(0, 1, 0)", x.laid(0, 1, 0), 0);
        Due.feed(x, ";");
        Due.due("the first byte: market()", x.market(), -1000100);
    }

    private static void setsAreBits() {
        Due.sentence("Terms", "Sets are bits.");
        for (int rotten = 0; rotten < 16; rotten++) {
            HeapEnds x = Due.read("law 0;buyer 5 0;");
            for (int ware = 0; ware < 16; ware++) {
                x.lay(ware == rotten ? 1 : 4, 1, 1);
            }
            int bit = 1 << rotten;
            Due.due("WARE " + rotten + ": rots(1, 1)", x.rots(1, 1), bit);
            Due.due("WARE " + rotten + ": rots(1, 2)", x.rots(1, 2), rotten == 0 || rotten == 15 ? 0 : bit);
            Due.due("WARE " + rotten + ": day()", x.day(), bit);
        }
        HeapEnds x = Due.read("law 0;buyer 5 0;");
        for (int ware = 0; ware < 16; ware++) {
            x.lay(4, ware + 1, 1);
        }
        Due.tell(x, 0, 1, 16, 15, 2, 14, 13, 12, 11, 10, 9);
        Due.due("heard(0, 0, 0, 1, 1)", x.heard(0, 0, 0, 1, 1), 1);
        Due.due("heard(0, 0, 1, 1, 1)", x.heard(0, 0, 1, 1, 1), 1 << 15);
        Due.due("heard(0, 0, 0, 10, 1)", x.heard(0, 0, 0, 10, 1), 0xff03);
    }

    private static void refusals() {
        Due.sentence("Terms", "BAD (a number is not as told; there is no such thing), STATE (as told), FULL (as told)");
        HeapEnds x = new HeapEnds();
        Due.due("a number is not as told: row(0, 3, 0)", x.row(0, 3, 0), -1000001);
        Due.due("there is no such thing: ware(0, 0)", x.ware(0, 0), -1000001);
        Due.due("day()", x.day(), -1000002);
        for (int i = 0; i < 50; i++) {
            x.feed(0, 8);
        }
        Due.due("feed(0, 1)", x.feed(0, 1), -1000003);
        Due.due("trace(0)", x.trace(0), -1000000);
    }

    private static void badAheadOfState() {
        Due.sentence("Terms (BAD ahead of STATE)", "Refusals are answers, the first of these that fits");
        Twins.Maker empty = () -> Due.read("law 0;buyer 0 0;");
        Twins.dueRefused(empty, "take(0, 2)", x -> x.take(0, 2), Due.BAD);
        Twins.dueRefused(empty, "take(-1, 0)", x -> x.take(-1, 0), Due.BAD);
        Twins.dueRefused(Twins::shop, "reach(0, 2)", x -> x.reach(0, 2), Due.BAD);
        Twins.dueRefused(Twins::bare, "image(2)", x -> x.image(2), Due.BAD);
        Twins.dueRefused(Twins::bare, "restore(2)", x -> x.restore(2), Due.BAD);
    }

    private static void stateAheadOfBad() {
        Due.sentence("Promise 10, lay (with 20, 21, 24)", "STATE: no MARKET (ahead of BAD)");
        Twins.dueRefused(Twins::bare, "lay(9, 99, 9)", x -> x.lay(9, 99, 9), Due.STATE);
        Twins.dueRefused(Twins::bare, "line(9, 0, 0, 9)", x -> x.line(9, 0, 0, 9), Due.STATE);
        Twins.dueRefused(Twins::bare, "rots(-1, 9)", x -> x.rots(-1, 9), Due.STATE);
        Twins.dueRefused(Twins::bare, "judge(9, 0, 0)", x -> x.judge(9, 0, 0), Due.STATE);
    }

    private static void badAheadOfFull() {
        Due.sentence("Terms (BAD ahead of FULL)", "Refusals are answers, the first of these that fits");
        Twins.Maker full = () -> {
            HeapEnds x = Due.read("law 0;buyer 0 0;buyer 0 0;");
            for (int ware = 0; ware < 16; ware++) {
                x.lay(1, 1, 0);
            }
            Due.feed(x, " ".repeat(400));
            return x;
        };
        Twins.dueRefused(full, "lay(0, 1, 0)", x -> x.lay(0, 1, 0), Due.BAD);
        Twins.dueRefused(full, "lay(1, 1, 0)", x -> x.lay(1, 1, 0), Due.FULL);
        Twins.dueRefused(full, "laid(0, 0, 0)", x -> x.laid(0, 0, 0), Due.BAD);
        Twins.dueRefused(full, "laid(0, 1, 0)", x -> x.laid(0, 1, 0), Due.FULL);
        Twins.dueRefused(full, "feed(0, 0)", x -> x.feed(0, 0), Due.BAD);
        Twins.dueRefused(full, "feed(0, 1)", x -> x.feed(0, 1), Due.FULL);
    }

    private static void refusalsAheadOfFindings() {
        Due.sentence("Terms (ahead of FINDINGS)", "Refusals are answers, the first of these that fits");
        Twins.dueBad("row(8, 0, -1)", x -> x.row(8, 0, -1));
        Twins.dueBad("set(-1, -1, 0)", x -> x.set(-1, -1, 0));
        Twins.dueBad("copy(3, 0, -1, 0, -1)", x -> x.copy(3, 0, -1, 0, -1));
        Twins.dueBad("line(3, 0, 41, -1)", x -> x.line(3, 0, 41, -1));
        Twins.dueBad("judge(3, 0, 17)", x -> x.judge(3, 0, 17));
        Twins.dueBad("heard(0, 3, 0, 1, 2)", x -> x.heard(0, 3, 0, 1, 2));
        Twins.dueBad("as(9, 5)", x -> x.as(9, 5));
        Twins.dueRefused(Twins::bare, "STATE, too: line(0, -1, 1, -1)", x -> x.line(0, -1, 1, -1), Due.STATE);
        Twins.dueRefused(Twins::bare, "STATE, too: judge(0, -1, 1)", x -> x.judge(0, -1, 1), Due.STATE);
    }

    private static void thenBad() {
        Due.sentence("Promise 20, line", "NULL; PLACE; then BAD: an ITEM that is no BUYER");
        Twins.dueFound("PLACE ahead of BAD: line(0, 1, 3, -1)", x -> x.line(0, 1, 3, -1), Due.PLACE);
        Twins.dueBad("line(0, 1, 1, -1)", x -> x.line(0, 1, 1, -1));
        Due.sentence("Promise 24, judge", "NULL; PLACE; then BAD: an ITEM that is no WARE");
        Twins.dueFound("PLACE ahead of BAD: judge(1, 1, 2)", x -> x.judge(1, 1, 2), Due.PLACE);
        Twins.dueBad("judge(1, 1, 1)", x -> x.judge(1, 1, 1));
    }

    private static void findings() {
        Due.sentence("Terms", "-1000010 less 1 NULL (a ROW that is missing), 2 PLACE (no such place of a ROW), 3 KIND (a WARE that is not that), "
            + "4 SIZE (fewer than none), 5 STORE (ROWS of two LANES)");
        Twins.dueFound("a ROW that is missing: drop(3)", x -> x.drop(3), -1000011);
        Twins.dueFound("no such place of a ROW: set(0, 3, 0)", x -> x.set(0, 3, 0), -1000012);
        Twins.dueFound("a WARE that is not that: as(1, 1)", x -> x.as(1, 1), -1000013);
        Twins.dueFound("fewer than none: row(0, 0, -1)", x -> x.row(0, 0, -1), -1000014);
        Twins.dueFound("ROWS of two LANES: copy(0, 0, 1, 0, 0)", x -> x.copy(0, 0, 1, 0, 0), -1000015);
    }

    /** A call of each kind that can be refused, by each of its refusals; others have theirs beside them. */
    private static void changesNothing() {
        Due.sentence("Terms", "What is refused, or found, changes nothing but status().");
        Twins.dueBad("row(0, 0, 41)", x -> x.row(0, 0, 41));
        Twins.dueFound("row(0, 0, -1)", x -> x.row(0, 0, -1), Due.SIZE);
        Twins.dueFound("set(0, 3, 9)", x -> x.set(0, 3, 9), Due.PLACE);
        Twins.dueFound("copy(0, 0, 0, 1, 3)", x -> x.copy(0, 0, 0, 1, 3), Due.PLACE);
        Twins.dueFound("copy(0, 1, 1, 0, 1)", x -> x.copy(0, 1, 1, 0, 1), Due.STORE);
        Twins.dueBad("feed(0x20, 0)", x -> x.feed(0x20, 0));
        Twins.dueBad("take(0, 2)", x -> x.take(0, 2));
        Twins.Maker poor = () -> Due.read("law 0;buyer 0 4;ware cloth 5 0;");
        Twins.dueRefused(poor, "take(0, 0)", x -> x.take(0, 0), Due.STATE);
        Twins.dueBad("lay(6, 1, 0)", x -> x.lay(6, 1, 0));
        Twins.dueRefused(Twins::bare, "day()", HeapEnds::day, Due.STATE);
        Twins.dueRefused(Twins::bare, "undo()", HeapEnds::undo, Due.STATE);
        Twins.dueFound("line(0, 2, 2, -1)", x -> x.line(0, 2, 2, -1), Due.PLACE);
        Twins.dueBad("line(0, 0, 3, -1)", x -> x.line(0, 0, 3, -1));
        Twins.dueFound("judge(0, 2, 2)", x -> x.judge(0, 2, 2), Due.PLACE);
        Twins.dueBad("judge(1, 0, 2)", x -> x.judge(1, 0, 2));
        Twins.dueFound("heard(0, 0, 2, 2, 0)", x -> x.heard(0, 0, 2, 2, 0), Due.PLACE);
        Twins.dueBad("image(2)", x -> x.image(2));
        Twins.dueRefused(Twins::shop, "restore(0)", x -> x.restore(0), Due.STATE);
        Twins.dueBad("ask(9, 0)", x -> x.ask(9, 0));
        Twins.dueFound("as(1, 5)", x -> x.as(1, 5), Due.KIND);
    }
}
