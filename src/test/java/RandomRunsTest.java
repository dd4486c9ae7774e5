import java.util.ArrayList;
import java.util.List;
import java.util.Random;

/** All promises: runs of calls by lot, of always the same lots, held against the model. */
public final class RandomRunsTest {
    private static final int RUNS = 600;
    private static final int CALLS = 500;
    private static final String[] SORTS = {"fruit", "melon", "berry", "cloth", "silk"};

    private final Random lot;
    private final HeapEnds x = new HeapEnds();
    private final Model m = new Model();
    private final List<String> calls = new ArrayList<>();
    private int made;
    private boolean wrong;

    private RandomRunsTest(int run) {
        lot = new Random(7919L * run + 1);
    }

    public static void main(String[] args) {
        int wrongRuns = 0;
        for (int run = 0; run < RUNS && wrongRuns < 3; run++) {
            RandomRunsTest test = new RandomRunsTest(run);
            test.run();
            if (test.wrong) {
                wrongRuns++;
                System.out.println("run " + run + ":");
                test.calls.forEach(System.out::println);
            }
        }
        if (wrongRuns > 0) {
            System.exit(1);
        }
        System.out.println("RandomRunsTest: all answers are as the model's");
    }

    private void run() {
        if (lot.nextInt(8) > 0) {
            feed(text());
            due("market()", x.market(), m.market());
        }
        while (made < CALLS && !wrong) {
            step();
        }
        due("status()", x.status(), m.status());
    }

    private void due(String call, int got, int want) {
        made++;
        calls.add("  " + call + " " + got);
        if (got != want) {
            wrong = true;
            calls.add("  .. due is " + want);
        }
    }

    /** Mostly a number that there is, now and then one beside it or far off. */
    private int among(int n) {
        int odd = lot.nextInt(40);
        if (odd == 0) {
            return lot.nextBoolean() ? Integer.MAX_VALUE : Integer.MIN_VALUE;
        }
        if (odd <= 2) {
            return odd == 1 ? -1 : n;
        }
        return n <= 0 ? 0 : lot.nextInt(n);
    }

    private int wares() {
        return m.count(2);
    }

    private int buyers() {
        return m.count(1);
    }

    private int lying() {
        return m.count(3);
    }

    private void step() {
        int n = lot.nextInt(100);
        if (n < 22) {
            act();
        } else if (n < 40) {
            told();
        } else if (n < 62) {
            foretold();
        } else if (n < 80) {
            look();
        } else if (n < 90) {
            rows();
        } else if (n < 96) {
            asked();
        } else {
            others();
        }
    }

    private void act() {
        int n = lot.nextInt(20);
        int end = among(2);
        if (n < 7) {
            int b = among(buyers());
            due("take(" + b + ", " + end + ")", x.take(b, end), m.take(b, end));
        } else if (n < 11) {
            int kind = 1 + among(5);
            int worth = lot.nextInt(3) == 0 ? lot.nextInt(3) : among(31);
            due("lay(" + kind + ", " + worth + ", " + end + ")", x.lay(kind, worth, end), m.lay(kind, worth, end));
        } else if (n < 15) {
            due("day()", x.day(), m.day());
        } else {
            due("undo()", x.undo(), m.undo());
        }
    }

    private void told() {
        int row = among(8);
        switch (lot.nextInt(3)) {
            case 0: {
                tell(row, buyers());
                int i = among(3);
                int n = 1 + among(12);
                int who = among(buyers() + 1) - 1;
                due("line(" + row + ", " + i + ", " + n + ", " + who + ")", x.line(row, i, n, who), m.line(row, i, n, who));
                break;
            }
            case 1: {
                tellWares(row);
                int i = among(2);
                int n = 1 + among(lying());
                due("judge(" + row + ", " + i + ", " + n + ")", x.judge(row, i, n), m.judge(row, i, n));
                break;
            }
            default: {
                int b = among(buyers());
                tellValues(row, b);
                int i = among(2);
                int n = 1 + among(Math.min(10, Math.max(1, lying())));
                for (int what = 0; what < 2; what++) {
                    due("heard(" + b + ", " + row + ", " + i + ", " + n + ", " + what + ")",
                        x.heard(b, row, i, n, what), m.heard(b, row, i, n, what));
                }
            }
        }
    }

    private void tell(int row, int bound) {
        int size = lot.nextInt(14);
        begin(row, size);
        for (int i = 0; i < size; i++) {
            put(row, i, among(bound));
        }
    }

    private void begin(int row, int size) {
        int lane = lot.nextInt(3);
        due("row(" + row + ", " + lane + ", " + size + ")", x.row(row, lane, size), m.row(row, lane, size));
    }

    private void put(int row, int i, int v) {
        due("set(" + row + ", " + i + ", " + v + ")", x.set(row, i, v), m.set(row, i, v));
    }

    /** The wares that lie, in an order in which they can be taken, mostly: an end each, by lot. */
    private List<Integer> takes() {
        List<Integer> heap = new ArrayList<>();
        for (int place = 0; place < lying(); place++) {
            for (int ware = 0; ware < wares(); ware++) {
                if (m.ware(ware, 3) == place) {
                    heap.add(ware);
                }
            }
        }
        List<Integer> takes = new ArrayList<>();
        while (!heap.isEmpty()) {
            boolean within = lot.nextInt(12) == 0;
            int end = lot.nextBoolean() ? 0 : heap.size() - 1;
            takes.add(heap.remove(within ? lot.nextInt(heap.size()) : end));
        }
        return takes;
    }

    private void tellWares(int row) {
        List<Integer> takes = takes();
        int more = lot.nextInt(3);
        begin(row, takes.size() + more);
        for (int i = 0; i < takes.size() + more; i++) {
            put(row, i, i < takes.size() ? takes.get(i) : among(wares()));
        }
    }

    private void tellValues(int row, int buyer) {
        List<Integer> takes = takes();
        int more = lot.nextInt(3);
        begin(row, takes.size() + more);
        for (int i = 0; i < takes.size() + more; i++) {
            put(row, i, i < takes.size() ? m.worth(takes.get(i), buyer) : among(9));
        }
    }

    private void foretold() {
        int a = among(buyers());
        int b = among(buyers());
        switch (lot.nextInt(8)) {
            case 0: {
                int what = among(3);
                due("best(" + a + ", " + b + ", " + what + ")", x.best(a, b, what), m.best(a, b, what));
                break;
            }
            case 1:
                due("passBy(" + a + ", " + b + ")", x.passBy(a, b), m.passBy(a, b));
                break;
            case 2:
                if (lot.nextInt(4) == 0) {
                    int k = among(8) - 1;
                    due("laid(" + a + ", " + b + ", " + k + ")", x.laid(a, b, k), m.laid(a, b, k));
                }
                break;
            case 3: {
                int what = among(2);
                due("ring(" + a + ", " + b + ", " + what + ")", x.ring(a, b, what), m.ring(a, b, what));
                break;
            }
            case 4: {
                int n = among(100);
                int what = among(3);
                due("rots(" + n + ", " + what + ")", x.rots(n, what), m.rots(n, what));
                int few = lot.nextInt(9);
                due("rots(" + few + ", " + what + ")", x.rots(few, what), m.rots(few, what));
                break;
            }
            case 5: {
                int ware = among(wares());
                int what = among(2);
                due("reach(" + ware + ", " + what + ")", x.reach(ware, what), m.reach(ware, what));
                break;
            }
            case 6:
                if (lying() < 12 || lot.nextInt(20) == 0) {
                    int k = among(lying() + 2) - 1;
                    due("harvest(" + a + ", " + k + ")", x.harvest(a, k), m.harvest(a, k));
                }
                break;
            default: {
                int p = among(lying() + 1);
                int k = among(lying() + 1);
                due("apart(" + a + ", " + p + ", " + k + ")", x.apart(a, p, k), m.apart(a, p, k));
            }
        }
    }

    private void look() {
        int ware = among(wares());
        int b = among(buyers());
        switch (lot.nextInt(4)) {
            case 0: {
                int what = among(6);
                due("ware(" + ware + ", " + what + ")", x.ware(ware, what), m.ware(ware, what));
                break;
            }
            case 1: {
                int what = among(4);
                due("buyer(" + b + ", " + what + ")", x.buyer(b, what), m.buyer(b, what));
                break;
            }
            case 2:
                due("worth(" + ware + ", " + b + ")", x.worth(ware, b), m.worth(ware, b));
                break;
            default: {
                int what = among(7);
                due("count(" + what + ")", x.count(what), m.count(what));
                due("status()", x.status(), m.status());
            }
        }
    }

    private void rows() {
        int row = among(8);
        int i = among(12);
        switch (lot.nextInt(5)) {
            case 0: {
                int lane = among(3);
                int n = among(41);
                due("row(" + row + ", " + lane + ", " + n + ")", x.row(row, lane, n), m.row(row, lane, n));
                break;
            }
            case 1:
                put(row, i, lot.nextInt());
                break;
            case 2:
            case 3: {
                int b = lot.nextInt(3) == 0 ? row : among(8);
                int j = among(12);
                int n = among(8);
                due("copy(" + row + ", " + i + ", " + b + ", " + j + ", " + n + ")",
                    x.copy(row, i, b, j, n), m.copy(row, i, b, j, n));
                break;
            }
            default:
                due("drop(" + row + ")", x.drop(row), m.drop(row));
        }
        due("status()", x.status(), m.status());
    }

    private void asked() {
        int ware = among(wares());
        switch (lot.nextInt(3)) {
            case 0:
                due("kind(" + ware + ")", x.kind(ware), m.kind(ware));
                break;
            case 1: {
                int kind = among(6);
                due("as(" + ware + ", " + kind + ")", x.as(ware, kind), m.as(ware, kind));
                due("status()", x.status(), m.status());
                break;
            }
            default: {
                int what = among(2);
                due("ask(" + ware + ", " + what + ")", x.ask(ware, what), m.ask(ware, what));
                for (int i = 0; i < 6; i++) {
                    due("trace(" + i + ")", x.trace(i), m.trace(i));
                }
            }
        }
    }

    private void others() {
        int k = among(2);
        switch (lot.nextInt(4)) {
            case 0:
                due("image(" + k + ")", x.image(k), m.image(k));
                break;
            case 1:
                due("restore(" + k + ")", x.restore(k), m.restore(k));
                break;
            default: {
                feed(lot.nextInt(3) == 0 ? spoilt(text()) : text());
                due("market()", x.market(), m.market());
                due("fault()", x.fault(), m.fault());
            }
        }
    }

    private String text() {
        StringBuilder s = new StringBuilder("law ").append(lot.nextInt(2)).append(blank()).append(';');
        for (int n = lot.nextInt(4) + (lot.nextInt(4) > 0 ? 1 : 0); n > 0; n--) {
            s.append("buyer ").append(lot.nextInt(6)).append(blank()).append(' ').append(lot.nextInt(201)).append(';').append(blank());
        }
        int most = lot.nextBoolean() ? 10 : 31;
        for (int n = lot.nextInt(11); n > 0; n--) {
            s.append("ware ").append(SORTS[lot.nextInt(5)]).append(' ').append(lot.nextInt(most)).append(' ')
                .append(lot.nextInt(10)).append(blank()).append(';');
        }
        return s.toString();
    }

    private String blank() {
        return new String[] {"", "", "", "", " ", "\n"}[lot.nextInt(6)];
    }

    private String spoilt(String text) {
        StringBuilder s = new StringBuilder(text);
        for (int n = 1 + lot.nextInt(2); n > 0; n--) {
            int at = lot.nextInt(s.length() + 1);
            switch (lot.nextInt(4)) {
                case 0:
                    s.setLength(Math.max(1, at));
                    break;
                case 1:
                    s.insert(at, "0123456789;;aelrw \t".charAt(lot.nextInt(19)));
                    break;
                case 2:
                    s.insert(at, new String[] {"buyer 1 1;", "ware silk 1 1;", " 1000", "law 1;"}[lot.nextInt(4)]);
                    break;
                default:
                    s.deleteCharAt(Math.min(at, s.length() - 1));
            }
        }
        return s.toString();
    }

    private void feed(String text) {
        for (int i = 0; i < text.length(); ) {
            int n = 1 + lot.nextInt(8);
            long w = lot.nextLong();
            int some = Math.min(n, text.length() - i);
            for (int k = 0; k < some; k++) {
                w = w << 8 | text.charAt(i + k);
            }
            due("feed(" + w + ", " + some + ")", x.feed(w, some), m.feed(w, some));
            i += some;
        }
    }
}
