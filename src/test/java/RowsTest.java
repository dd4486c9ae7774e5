/** Promises 1 to 5, and 34 for the calls with a row. */
public final class RowsTest {
    public static void main(String[] args) {
        newObject();
        row();
        set();
        copy();
        drop();
        status();
        Due.end("RowsTest");
    }

    private static void newObject() {
        HeapEnds x = new HeapEnds();
        for (int what = 0; what <= 6; what++) {
            Due.due("new: count " + what, x.count(what), 0);
        }
        Due.due("new: fault", x.fault(), 0);
        Due.due("new: status", x.status(), 0);
        Due.due("new: trace", x.trace(0), Due.NONE);
        Due.due("new: lay", x.lay(1, 1, 0), Due.STATE);
        for (int r = 0; r < 8; r++) {
            Due.due("new: drop " + r, x.drop(r), Due.NULL);
        }
        HeapEnds other = new HeapEnds();
        x.row(0, 0, 1);
        Due.readInto(x, "law 0;ware silk 1 1;");
        Due.due("another object: rows", other.count(0), 0);
        Due.due("another object: wares", other.count(2), 0);
    }

    /** Items can't be asked for: a ware of cloth is worth the item, if it is the item that is heard. */
    private static void dueItem(HeapEnds x, String what, int row, int i, int item) {
        Due.readInto(x, "law 0;buyer 1 0;ware cloth " + item + " 0;");
        Due.due(what, x.heard(0, row, i, 1, 0), 1);
    }

    private static void row() {
        HeapEnds x = new HeapEnds();
        Due.due("row none", x.row(0, 0, 0), 0);
        Due.due("row most", x.row(7, 2, 40), 40);
        Due.due("rows", x.count(0), 2);
        Due.due("row -1", x.row(-1, 0, 1), Due.BAD);
        Due.due("row 8", x.row(8, 0, 1), Due.BAD);
        Due.due("lane -1", x.row(0, -1, 1), Due.BAD);
        Due.due("lane 3", x.row(0, 3, 1), Due.BAD);
        Due.due("n 41", x.row(0, 0, 41), Due.BAD);
        Due.due("n most", x.row(0, 0, Integer.MAX_VALUE), Due.BAD);
        Due.due("n -1", x.row(0, 0, -1), Due.SIZE);
        Due.due("n least", x.row(0, 0, Integer.MIN_VALUE), Due.SIZE);
        Due.due("bad ahead of size: row", x.row(8, 0, -1), Due.BAD);
        Due.due("bad ahead of size: lane", x.row(0, 3, -1), Due.BAD);
        Due.tell(x, 3, 5, 6, 7);
        Due.due("size leaves what is there", x.row(3, 0, -1), Due.SIZE);
        dueItem(x, "items stay where size is found", 3, 1, 6);
        Due.due("in place of it", x.row(3, 2, 2), 2);
        dueItem(x, "items are 0 at first", 3, 1, 0);
        Due.due("no third place", x.set(3, 2, 1), Due.PLACE);
        Due.due("longer again", x.row(3, 2, 3), 3);
        dueItem(x, "the third is 0, too", 3, 2, 0);
        Due.due("rows at last", x.count(0), 3);
    }

    private static void set() {
        HeapEnds x = new HeapEnds();
        x.row(0, 0, 2);
        x.row(1, 1, 2);
        x.row(2, 2, 2);
        Due.due("byte 127", x.set(0, 0, 127), 127);
        Due.due("byte 128", x.set(0, 0, 128), -128);
        Due.due("byte 255", x.set(0, 0, 255), -1);
        Due.due("byte 256", x.set(0, 0, 256), 0);
        Due.due("byte -129", x.set(0, 0, -129), 127);
        Due.due("short 32767", x.set(1, 0, 32767), 32767);
        Due.due("short 32768", x.set(1, 0, 32768), -32768);
        Due.due("short 65537", x.set(1, 0, 65537), 1);
        Due.due("short -32769", x.set(1, 0, -32769), 32767);
        Due.due("int most", x.set(2, 0, Integer.MAX_VALUE), Integer.MAX_VALUE);
        Due.due("int least", x.set(2, 0, Integer.MIN_VALUE), Integer.MIN_VALUE);
        Due.due("an answer may look like a refusal", x.set(2, 1, Due.BAD), Due.BAD);
        Due.due("last place", x.set(2, 1, 9), 9);
        dueItem(x, "it is kept", 2, 1, 9);
        x.set(0, 1, 256 + 9);
        dueItem(x, "its lowest bits are kept", 0, 1, 9);
        Due.due("row -1", x.set(-1, 0, 0), Due.BAD);
        Due.due("row 8", x.set(8, 0, 0), Due.BAD);
        Due.due("missing", x.set(3, 0, 0), Due.NULL);
        Due.due("missing ahead of place", x.set(3, -1, 0), Due.NULL);
        Due.due("place -1", x.set(2, -1, 0), Due.PLACE);
        Due.due("place 2", x.set(2, 2, 0), Due.PLACE);
        Due.due("place most", x.set(2, Integer.MAX_VALUE, 0), Due.PLACE);
        Due.due("place least", x.set(2, Integer.MIN_VALUE, 0), Due.PLACE);
    }

    private static void copy() {
        HeapEnds x = new HeapEnds();
        x.row(1, 2, 5);
        Due.tell(x, 0, 1, 2, 3, 4);
        Due.due("to another", x.copy(0, 1, 1, 2, 3), 3);
        dueItem(x, "first of three", 1, 2, 2);
        dueItem(x, "last of three", 1, 4, 4);
        dueItem(x, "ahead of them", 1, 1, 0);
        Due.due("on to the right", x.copy(0, 0, 0, 1, 3), 3);
        dueItem(x, "right 0", 0, 0, 1);
        dueItem(x, "right 1", 0, 1, 1);
        dueItem(x, "right 2", 0, 2, 2);
        dueItem(x, "right 3", 0, 3, 3);
        Due.due("on to the left", x.copy(0, 1, 0, 0, 3), 3);
        dueItem(x, "left 0", 0, 0, 1);
        dueItem(x, "left 1", 0, 1, 2);
        dueItem(x, "left 2", 0, 2, 3);
        Due.due("none at the end", x.copy(0, 4, 1, 5, 0), 0);
        Due.due("all", x.copy(0, 0, 1, 0, 4), 4);
        Due.due("none behind the end", x.copy(0, 5, 1, 0, 0), Due.PLACE);
        Due.due("none behind the other end", x.copy(0, 0, 1, 6, 0), Due.PLACE);
        Due.due("n -1", x.copy(0, 1, 1, 1, -1), Due.PLACE);
        Due.due("i -1", x.copy(0, -1, 1, 0, 1), Due.PLACE);
        Due.due("j -1", x.copy(0, 0, 1, -1, 1), Due.PLACE);
        Due.due("beyond the first", x.copy(0, 1, 1, 0, 4), Due.PLACE);
        Due.due("beyond the second", x.copy(0, 0, 1, 2, 4), Due.PLACE);
        Due.due("n most", x.copy(0, 1, 1, 1, Integer.MAX_VALUE), Due.PLACE);
        Due.due("i most", x.copy(0, Integer.MAX_VALUE, 1, 1, 1), Due.PLACE);
        Due.due("j most", x.copy(0, 0, 1, Integer.MAX_VALUE, 1), Due.PLACE);
        Due.due("a -1", x.copy(-1, 0, 1, 0, 1), Due.BAD);
        Due.due("a 8", x.copy(8, 0, 1, 0, 1), Due.BAD);
        Due.due("b -1", x.copy(0, 0, -1, 0, 1), Due.BAD);
        Due.due("b 8", x.copy(7, 0, 8, 0, 1), Due.BAD);
        Due.due("a missing", x.copy(2, 0, 1, 0, 1), Due.NULL);
        Due.due("b missing", x.copy(0, 9, 2, 0, 1), Due.NULL);
        x.row(3, 1, 5);
        Due.due("two lanes", x.copy(0, 0, 3, 0, 1), Due.STORE);
        Due.due("two lanes, none", x.copy(3, 0, 0, 0, 0), Due.STORE);
        Due.due("store ahead of place", x.copy(0, -1, 3, 9, -1), Due.STORE);
        dueItem(x, "nothing came", 3, 0, 0);
    }

    private static void drop() {
        HeapEnds x = new HeapEnds();
        Due.tell(x, 0, 4, 5, 6);
        x.row(1, 0, 0);
        Due.due("rows ahead", x.count(0), 2);
        Due.due("drop of three", x.drop(0), 3);
        Due.due("drop of none", x.drop(1), 0);
        Due.due("rows behind", x.count(0), 0);
        Due.due("it is missing", x.drop(0), Due.NULL);
        Due.due("set of it", x.set(0, 0, 1), Due.NULL);
        Due.due("drop -1", x.drop(-1), Due.BAD);
        Due.due("drop 8", x.drop(8), Due.BAD);
        x.row(0, 2, 3);
        dueItem(x, "a new one is 0", 0, 2, 0);
    }

    private static void status() {
        HeapEnds x = new HeapEnds();
        x.row(0, 0, -1);
        Due.due("size", x.status(), 4);
        x.row(8, 0, 0);
        x.set(8, 0, 0);
        x.copy(0, 0, 8, 0, 0);
        x.drop(-1);
        Due.due("bad leaves it", x.status(), 4);
        x.drop(0);
        Due.due("null", x.status(), 1);
        x.row(0, 0, 3);
        Due.due("a row", x.status(), 0);
        x.set(0, 3, 0);
        Due.due("place", x.status(), 2);
        x.count(0);
        x.fault();
        x.feed(0, 9);
        Due.due("calls without a row leave it", x.status(), 2);
        x.set(0, 0, 0);
        Due.due("set", x.status(), 0);
        x.row(1, 1, 3);
        Due.due("store: answer", x.copy(0, 0, 1, 0, 1), Due.STORE);
        Due.due("store", x.status(), 5);
        Due.due("status of status", x.status(), 5);
        x.copy(0, 0, 0, 1, 1);
        Due.due("copy", x.status(), 0);
        x.drop(2);
        x.drop(1);
        Due.due("drop", x.status(), 0);
        foretoldStatus();
    }

    private static void foretoldStatus() {
        HeapEnds x = new HeapEnds();
        x.drop(0);
        Due.due("line: state", x.line(0, 0, 1, -1), Due.STATE);
        Due.due("judge: state", x.judge(0, 0, 1), Due.STATE);
        Due.due("heard: bad", x.heard(0, 0, 0, 1, 0), Due.BAD);
        Due.due("state and bad leave it", x.status(), 1);
        Due.readInto(x, "law 0;buyer 1 0;ware cloth 3 0;");
        Due.due("a market leaves it", x.status(), 1);
        Due.tell(x, 0, 0, 3, 7);
        Due.due("told", x.status(), 0);
        Due.due("line: place", x.line(0, 3, 1, -1), Due.PLACE);
        Due.due("line: place: status", x.status(), 2);
        Due.due("line: no buyer", x.line(0, 0, 2, -1), Due.BAD);
        Due.due("judge: no ware", x.judge(0, 0, 2), Due.BAD);
        Due.due("bad at last leaves it, too", x.status(), 2);
        Due.due("line", x.line(0, 0, 1, -1), 0);
        Due.due("line: status", x.status(), 0);
        Due.due("judge: null", x.judge(1, 0, 1), Due.NULL);
        Due.due("judge: null: status", x.status(), 1);
        Due.due("judge", x.judge(0, 0, 1), Due.NONE);
        Due.due("judge: status", x.status(), 0);
        Due.due("heard: place", x.heard(0, 0, -1, 1, 0), Due.PLACE);
        Due.due("heard: place: status", x.status(), 2);
        Due.due("heard", x.heard(0, 0, 1, 1, 0), 1);
        Due.due("heard: status", x.status(), 0);
        Due.due("as: kind", x.as(0, 1), Due.KIND);
        Due.due("as: kind: status", x.status(), 3);
        Due.due("as: bad", x.as(1, 1), Due.BAD);
        Due.due("as: bad: status", x.status(), 3);
        Due.due("as", x.as(0, 4), 0);
        Due.due("as: status", x.status(), 0);
    }
}
