import java.util.ArrayList;
import java.util.List;

/** Two objects made alike: one is given a call, then both are asked for all that can be seen of them. */
final class Twins {
    interface Maker {
        HeapEnds make();
    }

    interface Call {
        int on(HeapEnds x);
    }

    private Twins() {
    }

    /**
     * Something of each kind is there: buyers 0 and 1, wares 0 to 4 (0 is taken, 1 to 4 lie in their
     * order), rows 0 (ints 1, 4, 0), 1 (shorts 0, 7) and 2 (bytes, no item), three acts, image 1, a
     * trace, a fault, four bytes on the tape, and status() is 2.
     */
    static HeapEnds shop() {
        HeapEnds x = new HeapEnds();
        Due.feed(x, "law 7;");
        x.market();
        Due.readInto(x, "law 0;buyer 1 40;buyer 4 9;ware fruit 6 1;ware cloth 5 0;ware silk 12 7;ware berry 9 2;");
        x.image(1);
        Due.tell(x, 0, 1, 4, 0);
        x.row(1, 1, 2);
        x.set(1, 1, 7);
        x.row(2, 0, 0);
        x.take(0, 0);
        x.day();
        x.lay(5, 9, 1);
        x.ask(2, 1);
        Due.feed(x, "law ");
        x.set(0, 3, 0);
        return x;
    }

    /** Nothing is there, but status() is 1. */
    static HeapEnds bare() {
        HeapEnds x = new HeapEnds();
        x.drop(0);
        return x;
    }

    /** What is refused, or found, changes nothing but status(), and that only where it is found. */
    static void dueRefused(Maker maker, String name, Call call, int want) {
        HeapEnds one = maker.make();
        HeapEnds other = maker.make();
        Due.due(name, call.on(one), want);
        boolean found = want <= Due.NULL && want >= Due.STORE;
        Due.due(name + ", then status()", one.status(), found ? -1000010 - want : other.status());
        dueAlike(name, one, other);
    }

    static void dueBad(String name, Call call) {
        dueRefused(Twins::shop, name, call, Due.BAD);
    }

    static void dueFound(String name, Call call, int want) {
        dueRefused(Twins::shop, name, call, want);
    }

    /** All is as it was, but for status(), which is this. */
    static void dueNoChange(Maker maker, String name, Call call, int want, int status) {
        HeapEnds one = maker.make();
        Due.due(name, call.on(one), want);
        Due.due(name + ", then status()", one.status(), status);
        dueAlike(name, one, maker.make());
    }

    static void dueAlike(String name, HeapEnds one, HeapEnds other) {
        List<String> names = new ArrayList<>();
        List<Integer> seen = look(one, names);
        List<Integer> due = look(other, new ArrayList<>());
        Due.due(name + ": how much can be seen", seen.size(), due.size());
        for (int i = 0; i < Math.min(seen.size(), due.size()); i++) {
            Due.due(name + ": " + names.get(i), seen.get(i), due.get(i));
        }
    }

    /** Looks at all but status(); the object is no more what it was then. */
    private static List<Integer> look(HeapEnds x, List<String> names) {
        List<Integer> seen = new ArrayList<>();
        lookAtMarket(x, "first", seen, names);
        for (int i = 0; i < 7; i++) {
            note("trace(" + i + ")", x.trace(i), seen, names);
        }
        note("fault()", x.fault(), seen, names);
        for (int row = 0; row < 8; row++) {
            lookAtRow(x, row, seen, names);
        }
        note("undo()", x.undo(), seen, names);
        lookAtMarket(x, "the latest act undone", seen, names);
        for (int i = 0; i < 4; i++) {
            note("undo()", x.undo(), seen, names);
        }
        lookAtMarket(x, "five acts undone", seen, names);
        note("market()", x.market(), seen, names);
        note("fault()", x.fault(), seen, names);
        for (int k = 0; k < 2; k++) {
            int restored = x.restore(k);
            note("restore(" + k + ")", restored, seen, names);
            if (restored > 0) {
                lookAtMarket(x, "restored " + k, seen, names);
            }
        }
        return seen;
    }

    private static void note(String name, int answer, List<Integer> seen, List<String> names) {
        names.add(name);
        seen.add(answer);
    }

    private static void lookAtMarket(HeapEnds x, String when, List<Integer> seen, List<String> names) {
        for (int what = 0; what <= 6; what++) {
            note(when + ": count(" + what + ")", x.count(what), seen, names);
        }
        int buyers = x.count(1);
        int wares = x.count(2);
        for (int buyer = 0; buyer < buyers; buyer++) {
            for (int what = 0; what < 4; what++) {
                note(when + ": buyer(" + buyer + ", " + what + ")", x.buyer(buyer, what), seen, names);
            }
        }
        for (int ware = 0; ware < wares; ware++) {
            for (int what = 0; what < 5; what++) {
                note(when + ": ware(" + ware + ", " + what + ")", x.ware(ware, what), seen, names);
            }
            note(when + ": kind(" + ware + ")", x.kind(ware), seen, names);
        }
        note(when + ": best(1, 0, 0)", x.best(1, 0, 0), seen, names);
    }

    /** Items can't be asked for: they are seen by what a line, a judge and an ear make of them. */
    private static void lookAtRow(HeapEnds x, int row, List<Integer> seen, List<String> names) {
        for (int i = 0; i < 3; i++) {
            String at = row + ", " + i;
            note("line(" + at + ", 1, -1)", x.line(row, i, 1, -1), seen, names);
            note("judge(" + at + ", 1)", x.judge(row, i, 1), seen, names);
            note("heard(0, " + at + ", 1, 0)", x.heard(0, row, i, 1, 0), seen, names);
        }
        note("set(" + row + ", 0, 70000)", x.set(row, 0, 70000), seen, names);
        note("drop(" + row + ")", x.drop(row), seen, names);
    }
}
