import java.util.ArrayDeque;
import java.util.ArrayList;
import java.util.Arrays;
import java.util.Deque;
import java.util.HashMap;
import java.util.HashSet;
import java.util.List;
import java.util.Map;
import java.util.Set;
import java.util.TreeSet;
import java.util.regex.Matcher;
import java.util.regex.Pattern;

/**
 * The document once more, in the slowest and plainest way: markets are copied ahead of each act,
 * and what is foretold is tried out. It shares nothing with the class that it is held against.
 */
final class Model {
    static final int NONE = -1000000;
    static final int BAD = -1000001;
    static final int STATE = -1000002;
    static final int FULL = -1000003;

    private static final List<String> SORTS = List.of("ware", "fruit", "melon", "berry", "cloth", "silk");

    private record Ware(int kind, int worth, int age, int taker) {
        int value(int days) {
            int old = age + days;
            int value = switch (SORTS.get(kind)) {
                case "fruit" -> worth - old;
                case "berry" -> worth - old - old;
                case "melon" -> old <= 5 ? worth + old : worth + 5 - 2 * (old - 5);
                case "silk" -> worth + old / 3;
                default -> worth;
            };
            return value < 0 ? 0 : value;
        }
    }

    private record Buyer(int taste, int purse, int gained, int took) {
    }

    private static final class World {
        int turn;
        int day;
        final List<Buyer> buyers = new ArrayList<>();
        final List<Ware> wares = new ArrayList<>();
        List<Integer> heap = new ArrayList<>();

        World copy() {
            World w = new World();
            w.turn = turn;
            w.day = day;
            w.buyers.addAll(buyers);
            w.wares.addAll(wares);
            w.heap.addAll(heap);
            return w;
        }

        int worth(int ware, int buyer, int days) {
            Ware w = wares.get(ware);
            return kinds(w.kind).contains(buyers.get(buyer).taste) ? 2 * w.value(days) : w.value(days);
        }
    }

    private final int[][] rows = new int[8][];
    private final int[] lanes = new int[8];
    private final StringBuilder tape = new StringBuilder();
    private World world;
    private final Deque<World> past = new ArrayDeque<>();
    private final World[] images = new World[2];
    private int fault;
    private int status;
    private final List<Integer> trace = new ArrayList<>();

    private static Set<Integer> kinds(int kind) {
        return switch (kind) {
            case 1 -> Set.of(0, 1);
            case 2 -> Set.of(0, 1, 2);
            case 3 -> Set.of(0, 1, 3);
            case 4 -> Set.of(0, 4);
            case 5 -> Set.of(0, 4, 5);
            default -> Set.of(0);
        };
    }

    // ---- rows

    private int found(int number) {
        status = number;
        return -1000010 - number;
    }

    private int well(int answer) {
        status = 0;
        return answer;
    }

    int row(int row, int lane, int n) {
        if (noRow(row) || lane < 0 || lane > 2 || n > 40) {
            return BAD;
        }
        if (n < 0) {
            return found(4);
        }
        rows[row] = new int[n];
        lanes[row] = lane;
        return well(n);
    }

    private static boolean noRow(int row) {
        return row < 0 || row > 7;
    }

    int set(int row, int i, int v) {
        if (noRow(row)) {
            return BAD;
        }
        if (rows[row] == null) {
            return found(1);
        }
        if (i < 0 || i >= rows[row].length) {
            return found(2);
        }
        int bits = lanes[row] == 0 ? 8 : lanes[row] == 1 ? 16 : 32;
        rows[row][i] = v << 32 - bits >> 32 - bits;
        return well(rows[row][i]);
    }

    int copy(int a, int i, int b, int j, int n) {
        if (noRow(a) || noRow(b)) {
            return BAD;
        }
        if (rows[a] == null || rows[b] == null) {
            return found(1);
        }
        if (lanes[a] != lanes[b]) {
            return found(5);
        }
        if (i < 0 || j < 0 || n < 0 || (long) i + n > rows[a].length || (long) j + n > rows[b].length) {
            return found(2);
        }
        int[] were = rows[a].clone();
        for (int k = 0; k < n; k++) {
            rows[b][j + k] = were[i + k];
        }
        return well(n);
    }

    int drop(int row) {
        if (noRow(row)) {
            return BAD;
        }
        if (rows[row] == null) {
            return found(1);
        }
        int n = rows[row].length;
        rows[row] = null;
        return well(n);
    }

    /** The items told, or null where a finding stands in status. */
    private int[] told(int row, int i, int n) {
        if (rows[row] == null) {
            status = 1;
            return null;
        }
        if (i < 0 || (long) i + n > rows[row].length) {
            status = 2;
            return null;
        }
        return Arrays.copyOfRange(rows[row], i, i + n);
    }

    // ---- texts

    int feed(long w, int n) {
        if (n < 1 || n > 8) {
            return BAD;
        }
        if (tape.length() + n > 400) {
            return FULL;
        }
        for (int i = n - 1; i >= 0; i--) {
            tape.append((char) (w >>> 8 * i & 255));
        }
        return tape.length();
    }

    private record Token(String text, int at) {
        boolean isWord(String word) {
            return text.equals(word);
        }
    }

    private List<Token> tokens;
    private int next;

    private static final class Fault extends Exception {
        private static final long serialVersionUID = 1;
        final int number;
        final int place;

        Fault(int number, int place) {
            this.number = number;
            this.place = place;
        }
    }

    int market() {
        String text = tape.toString();
        tape.setLength(0);
        tokens = new ArrayList<>();
        next = 0;
        Matcher m = Pattern.compile("[a-z]+|[0-9]+|[^ \n]", Pattern.DOTALL).matcher(text);
        while (m.find()) {
            tokens.add(new Token(m.group(), m.start()));
        }
        tokens.add(new Token("", text.length()));
        try {
            world = read();
        } catch (Fault f) {
            fault = f.number;
            return -1000100 - f.place;
        }
        past.clear();
        return world.wares.size();
    }

    private World read() throws Fault {
        World w = new World();
        word("law");
        w.turn = number(0, 1);
        word(";");
        while (tokens.get(next).isWord("buyer")) {
            room(w.buyers.size() < 4);
            next++;
            w.buyers.add(new Buyer(number(0, 5), number(0, 200), 0, 0));
            word(";");
        }
        while (tokens.get(next).isWord("ware")) {
            room(w.wares.size() < 10);
            next++;
            w.heap.add(w.wares.size());
            w.wares.add(new Ware(sort(), number(0, 30), number(0, 9), NONE));
            word(";");
        }
        if (next < tokens.size() - 1) {
            throw new Fault(1, tokens.get(next).at);
        }
        return w;
    }

    private void word(String word) throws Fault {
        if (!tokens.get(next).isWord(word)) {
            throw new Fault(1, tokens.get(next).at);
        }
        next++;
    }

    private void room(boolean there) throws Fault {
        if (!there) {
            throw new Fault(3, tokens.get(next).at);
        }
    }

    private int sort() throws Fault {
        int kind = SORTS.indexOf(tokens.get(next).text);
        if (kind < 1) {
            throw new Fault(1, tokens.get(next).at);
        }
        next++;
        return kind;
    }

    private int number(int least, int most) throws Fault {
        Token t = tokens.get(next);
        if (!t.text.matches("[0-9]{1,3}")) {
            throw new Fault(1, t.at);
        }
        int number = Integer.parseInt(t.text);
        if (number < least || number > most) {
            throw new Fault(2, t.at);
        }
        next++;
        return number;
    }

    int fault() {
        return fault;
    }

    // ---- acts

    private boolean noBuyer(int buyer) {
        return world == null || buyer < 0 || buyer >= world.buyers.size();
    }

    private boolean noWare(int ware) {
        return world == null || ware < 0 || ware >= world.wares.size();
    }

    private void act() {
        past.addLast(world);
        if (past.size() > 24) {
            past.removeFirst();
        }
        world = world.copy();
    }

    int take(int buyer, int end) {
        if (noBuyer(buyer) || end < 0 || end > 1) {
            return BAD;
        }
        if (world.heap.isEmpty()) {
            return STATE;
        }
        int place = end == 0 ? 0 : world.heap.size() - 1;
        int ware = world.heap.get(place);
        Ware w = world.wares.get(ware);
        Buyer b = world.buyers.get(buyer);
        if (b.purse < w.value(0)) {
            return STATE;
        }
        act();
        int gain = world.worth(ware, buyer, 0);
        world.heap.remove(place);
        world.wares.set(ware, new Ware(w.kind, w.worth, w.age, buyer));
        world.buyers.set(buyer, new Buyer(b.taste, b.purse - w.value(0), b.gained + gain, b.took + 1));
        return gain;
    }

    int lay(int kind, int worth, int end) {
        if (world == null) {
            return STATE;
        }
        if (kind < 1 || kind > 5 || worth < 0 || worth > 30 || end < 0 || end > 1) {
            return BAD;
        }
        if (world.wares.size() == 16) {
            return FULL;
        }
        act();
        int number = world.wares.size();
        world.wares.add(new Ware(kind, worth, 0, NONE));
        world.heap.add(end == 0 ? 0 : world.heap.size(), number);
        return number;
    }

    int day() {
        if (world == null) {
            return STATE;
        }
        if (world.day == 999) {
            return FULL;
        }
        act();
        int bits = 0;
        world.day++;
        for (int ware : world.heap) {
            Ware w = world.wares.get(ware);
            world.wares.set(ware, new Ware(w.kind, w.worth, w.age + 1, w.taker));
            if (w.value(0) > 0 && w.value(1) == 0) {
                bits |= 1 << ware;
            }
        }
        return bits;
    }

    int undo() {
        if (past.isEmpty()) {
            return STATE;
        }
        world = past.removeLast();
        return past.size();
    }

    int ware(int ware, int what) {
        if (noWare(ware) || what < 0 || what > 5) {
            return BAD;
        }
        Ware w = world.wares.get(ware);
        int place = world.heap.indexOf(ware);
        return switch (what) {
            case 0 -> w.worth;
            case 1 -> w.age;
            case 2 -> w.value(0);
            case 3 -> place < 0 ? NONE : place;
            case 4 -> w.taker;
            default -> w.value(0) == 0 ? 1 : 0;
        };
    }

    int buyer(int buyer, int what) {
        if (noBuyer(buyer) || what < 0 || what > 3) {
            return BAD;
        }
        Buyer b = world.buyers.get(buyer);
        return new int[] {b.taste, b.purse, b.gained, b.took}[what];
    }

    int worth(int ware, int buyer) {
        return noWare(ware) || noBuyer(buyer) ? BAD : world.worth(ware, buyer, 0);
    }

    // ---- foretold

    /** A game of two from a state of it on: what each gains, and the end that is taken first. */
    private record Game(int a, int b, int end) {
    }

    private final Map<List<Object>, Game> games = new HashMap<>();

    private Game play(List<Integer> heap, int gone, int a, int b, boolean mayPass) {
        if (heap.isEmpty()) {
            return new Game(0, 0, NONE);
        }
        List<Object> key = List.of(heap, gone, mayPass);
        Game known = games.get(key);
        if (known != null) {
            return known;
        }
        String turns = world.turn == 0 ? "abababababababababab" : "abbaabbaabbaabbaabba";
        boolean his = turns.charAt(gone) == 'a';
        Game best = null;
        for (int end = 0; end < 2; end++) {
            int ware = heap.get(end == 0 ? 0 : heap.size() - 1);
            List<Integer> rest = end == 0 ? heap.subList(1, heap.size()) : heap.subList(0, heap.size() - 1);
            Game on = play(List.copyOf(rest), gone + 1, a, b, mayPass);
            Game game = his ? new Game(on.a + world.worth(ware, a, 0), on.b, end)
                : new Game(on.a, on.b + world.worth(ware, b, 0), end);
            if (best == null || (his ? game.a > best.a : game.b > best.b)) {
                best = game;
            }
        }
        if (his && mayPass) {
            Game passed = play(heap, gone + 1, a, b, false);
            if (passed.a > best.a) {
                best = new Game(passed.a, passed.b, NONE);
            }
        }
        games.put(key, best);
        return best;
    }

    private Game game(List<Integer> heap, int a, int b, boolean mayPass) {
        games.clear();
        return play(List.copyOf(heap), 0, a, b, mayPass);
    }

    private boolean noPair(int a, int b) {
        return noBuyer(a) || noBuyer(b) || a == b;
    }

    int best(int a, int b, int what) {
        if (noPair(a, b) || what < 0 || what > 2) {
            return BAD;
        }
        Game game = game(world.heap, a, b, false);
        return what == 0 ? game.a : what == 1 ? game.b : game.end;
    }

    int passBy(int a, int b) {
        if (noPair(a, b)) {
            return BAD;
        }
        int more = game(world.heap, a, b, true).a - game(world.heap, a, b, false).a;
        return more < 0 ? 0 : more;
    }

    /** What a pass by is worth, below 0 too: for finding markets in which the bound counts. */
    int passByUnbound(int a, int b) {
        return game(world.heap, a, b, true).a - game(world.heap, a, b, false).a;
    }

    int laid(int a, int b, int k) {
        if (noPair(a, b) || k < -1) {
            return BAD;
        }
        if (world.heap.size() > 6) {
            return FULL;
        }
        List<List<Integer>> orders = new ArrayList<>();
        orders(new ArrayList<>(), new TreeSet<>(world.heap), orders);
        int most = -1;
        List<Integer> best = null;
        games.clear();
        for (List<Integer> order : orders) {
            int gain = play(List.copyOf(order), 0, a, b, false).a;
            if (gain > most) {
                most = gain;
                best = order;
            }
        }
        return k < 0 ? most : k < best.size() ? best.get(k) : NONE;
    }

    private void orders(List<Integer> begun, Set<Integer> left, List<List<Integer>> all) {
        if (left.isEmpty()) {
            all.add(List.copyOf(begun));
        }
        for (int ware : left) {
            Set<Integer> others = new TreeSet<>(left);
            others.remove(ware);
            begun.add(ware);
            orders(begun, others, all);
            begun.remove(begun.size() - 1);
        }
    }

    int ring(int a, int b, int what) {
        if (noPair(a, b) || what < 0 || what > 1) {
            return BAD;
        }
        int most = NONE;
        int cut = NONE;
        for (int c = 0; c < world.heap.size(); c++) {
            List<Integer> turned = new ArrayList<>(world.heap.subList(c, world.heap.size()));
            turned.addAll(world.heap.subList(0, c));
            int gain = game(turned, a, b, false).a;
            if (gain > most) {
                most = gain;
                cut = c;
            }
        }
        return what == 0 ? most : cut;
    }

    int line(int row, int i, int n, int who) {
        if (world == null) {
            return STATE;
        }
        if (noRow(row) || n < 1 || n > 40 || who < -1 || who >= world.buyers.size()) {
            return BAD;
        }
        int[] told = told(row, i, n);
        if (told == null) {
            return found(status);
        }
        for (int buyer : told) {
            if (noBuyer(buyer)) {
                return BAD;
            }
        }
        Deque<Integer> heap = new ArrayDeque<>(world.heap);
        int[] gains = new int[4];
        for (int buyer : told) {
            if (!heap.isEmpty()) {
                int left = world.worth(heap.getFirst(), buyer, 0);
                int right = world.worth(heap.getLast(), buyer, 0);
                gains[buyer] += left >= right ? left : right;
                if (left >= right) {
                    heap.removeFirst();
                } else {
                    heap.removeLast();
                }
            }
        }
        return well(who < 0 ? heap.size() : gains[who]);
    }

    int rots(int n, int what) {
        if (world == null) {
            return STATE;
        }
        if (n < 0 || n > 99 || what < 0 || what > 2) {
            return BAD;
        }
        int bits = 0;
        int many = 0;
        for (int place = 0; place < world.heap.size(); place++) {
            int ware = world.heap.get(place);
            boolean within = place > 0 && place < world.heap.size() - 1;
            if (world.wares.get(ware).value(n) == 0 && (what < 2 || within)) {
                bits |= 1 << ware;
                many++;
            }
        }
        return what == 0 ? many : bits;
    }

    int reach(int ware, int what) {
        if (noWare(ware) || what < 0 || what > 1) {
            return BAD;
        }
        int place = world.heap.indexOf(ware);
        if (place < 0) {
            return STATE;
        }
        List<Integer> left = world.heap.subList(0, place);
        List<Integer> right = world.heap.subList(place + 1, world.heap.size());
        if (what == 0) {
            return 1 + Math.min(left.size(), right.size());
        }
        return Math.min(left.stream().mapToInt(w -> world.wares.get(w).value(0)).sum(),
            right.stream().mapToInt(w -> world.wares.get(w).value(0)).sum());
    }

    int harvest(int buyer, int k) {
        if (noBuyer(buyer) || k < -1) {
            return BAD;
        }
        int n = world.heap.size();
        int most = -1;
        int[] best = null;
        int[] ends = new int[n];
        for (int way = 0; way < 1 << Math.max(0, n - 1); way++) {
            Deque<Integer> heap = new ArrayDeque<>(world.heap);
            int gain = 0;
            for (int day = 0; day < n; day++) {
                ends[day] = day < n - 1 ? way >> n - 2 - day & 1 : 0;
                gain += world.worth(ends[day] == 0 ? heap.removeFirst() : heap.removeLast(), buyer, day);
            }
            if (gain > most) {
                most = gain;
                best = ends.clone();
            }
        }
        return k < 0 ? most : k < n ? best[k] : NONE;
    }

    int judge(int row, int i, int n) {
        if (world == null) {
            return STATE;
        }
        if (noRow(row) || n < 1 || n > 16) {
            return BAD;
        }
        int[] told = told(row, i, n);
        if (told == null) {
            return found(status);
        }
        for (int ware : told) {
            if (noWare(ware)) {
                return BAD;
            }
        }
        List<Integer> heap = new ArrayList<>(world.heap);
        for (int k = 0; k < n; k++) {
            int place = heap.indexOf(told[k]);
            if (place < 0 || place > 0 && place < heap.size() - 1) {
                return well(k);
            }
            heap.remove(place);
        }
        return well(NONE);
    }

    int heard(int buyer, int row, int i, int n, int what) {
        if (noBuyer(buyer) || noRow(row) || n < 1 || n > 10 || what < 0 || what > 1) {
            return BAD;
        }
        int[] told = told(row, i, n);
        if (told == null) {
            return found(status);
        }
        Set<List<Integer>> ways = new HashSet<>();
        hear(buyer, told, new ArrayList<>(), new ArrayList<>(world.heap), ways);
        if (what == 0) {
            return well(ways.size());
        }
        Set<Integer> sure = null;
        for (List<Integer> way : ways) {
            if (sure == null) {
                sure = new TreeSet<>(way);
            } else {
                sure.retainAll(way);
            }
        }
        return well(sure == null ? NONE : sure.stream().mapToInt(w -> 1 << w).sum());
    }

    private void hear(int buyer, int[] told, List<Integer> way, List<Integer> heap, Set<List<Integer>> ways) {
        if (way.size() == told.length) {
            ways.add(List.copyOf(way));
            return;
        }
        for (int end = 0; end < 2 && !heap.isEmpty(); end++) {
            int place = end == 0 ? 0 : heap.size() - 1;
            int ware = heap.get(place);
            if (world.worth(ware, buyer, 0) == told[way.size()]) {
                List<Integer> rest = new ArrayList<>(heap);
                rest.remove(place);
                way.add(ware);
                hear(buyer, told, way, rest, ways);
                way.remove(way.size() - 1);
            }
        }
    }

    int apart(int buyer, int p, int k) {
        if (noBuyer(buyer) || p < 0 || p > world.heap.size() || k < 0 || k > world.heap.size()) {
            return BAD;
        }
        int[] worths = world.heap.stream().mapToInt(w -> world.worth(w, buyer, 0)).toArray();
        return mostOf(worths, new int[] {0, p, p, worths.length}, k, new HashMap<>());
    }

    /** What stays of both stalls: from the first of four numbers on, till ahead of the second, and so on. */
    private int mostOf(int[] worths, int[] stalls, int k, Map<List<Integer>, Integer> known) {
        if (k == 0) {
            return 0;
        }
        List<Integer> key = List.of(stalls[0], stalls[1], stalls[2], stalls[3]);
        if (known.containsKey(key)) {
            return known.get(key);
        }
        int most = 0;
        for (int s = 0; s < 4; s++) {
            if (stalls[s / 2 * 2] < stalls[s / 2 * 2 + 1]) {
                int[] on = stalls.clone();
                on[s] += s % 2 == 0 ? 1 : -1;
                most = Math.max(most, worths[s % 2 == 0 ? stalls[s] : on[s]] + mostOf(worths, on, k - 1, known));
            }
        }
        known.put(key, most);
        return most;
    }

    int image(int k) {
        if (k < 0 || k > 1) {
            return BAD;
        }
        if (world == null) {
            return STATE;
        }
        images[k] = world.copy();
        return 1;
    }

    int restore(int k) {
        if (k < 0 || k > 1) {
            return BAD;
        }
        if (images[k] == null) {
            return STATE;
        }
        world = images[k].copy();
        past.clear();
        return 1;
    }

    // ---- asked

    int kind(int ware) {
        return noWare(ware) ? BAD : world.wares.get(ware).kind;
    }

    int as(int ware, int kind) {
        if (noWare(ware) || kind < 0 || kind > 5) {
            return BAD;
        }
        return kinds(kind(ware)).contains(kind) ? well(ware) : found(3);
    }

    int ask(int ware, int what) {
        if (noWare(ware) || what < 0 || what > 1) {
            return BAD;
        }
        trace.clear();
        return what == 0 ? size(ware) : mark(ware);
    }

    private int size(int ware) {
        return body(ware, new int[] {0, 11, 12, 11, 13, 14}[kind(ware)]);
    }

    private int mark(int ware) {
        return body(ware, new int[] {0, 21, 24, 22, 23, 23}[kind(ware)]);
    }

    private int body(int ware, int number) {
        trace.add(number);
        return switch (number) {
            case 10 -> world.wares.get(ware).worth;
            case 11 -> body(ware, 10) + mark(ware);
            case 12 -> 0 - body(ware, 11);
            case 13 -> body(ware, 10) - 100;
            case 14 -> 2 * body(ware, 13);
            case 20 -> ware;
            case 21 -> body(ware, 20) + world.wares.get(ware).age;
            case 22 -> body(ware, 21) - 1000;
            case 23 -> body(ware, 20) - size(ware);
            default -> 2 * body(ware, 21);
        };
    }

    int trace(int i) {
        return i < 0 || i >= Math.min(16, trace.size()) ? NONE : trace.get(i);
    }

    int count(int what) {
        if (what < 0 || what > 6) {
            return BAD;
        }
        if (what == 0) {
            int there = 0;
            for (int[] row : rows) {
                there += row == null ? 0 : 1;
            }
            return there;
        }
        if (what == 6) {
            return tape.length();
        }
        if (world == null) {
            return 0;
        }
        return new int[] {0, world.buyers.size(), world.wares.size(), world.heap.size(), world.day, past.size()}[what];
    }

    int status() {
        return status;
    }
}
