import java.util.Arrays;

/**
 * A heap of wares in a row that is sold from its two ends alone. The calls of the face look at what
 * they are given, in the order of refusals, and leave the work to the classes inside. Every array
 * is made in a constructor and used again, so that no call makes an object.
 */
public final class HeapEnds {
    public static final int NONE = -1000000;
    public static final int BAD = -1000001;
    public static final int STATE = -1000002;
    public static final int FULL = -1000003;

    private static final int FOUND = -1000010;
    private static final int NULL = 1;
    private static final int PLACE = 2;
    private static final int KIND = 3;
    private static final int SIZE = 4;
    private static final int STORE = 5;
    private static final int FAULTY = -1000100;

    private static final int ROWS = 8;
    private static final int ITEMS = 40;
    private static final int BYTES = 0;
    private static final int SHORTS = 1;
    private static final int INTS = 2;

    private static final int TAPE = 400;
    private static final int WORD = 8;
    private static final int BUYERS = 4;
    private static final int TOLD_WARES = 10;
    private static final int WARES = 16;
    private static final int MOST_PURSE = 200;
    private static final int MOST_WORTH = 30;
    private static final int MOST_AGE = 9;
    private static final int LAST_DAY = 999;
    private static final int ACTS = 24;
    private static final int IMAGES = 2;

    private static final int MOST_LAID = 6;
    private static final int MOST_DAYS = 99;
    private static final int MOST_HEARD = 10;
    private static final int TRACE = 16;

    private static final int ANY_KIND = 0;
    private static final int FRUIT = 1;
    private static final int MELON = 2;
    private static final int BERRY = 3;
    private static final int CLOTH = 4;
    private static final int SILK = 5;
    private static final int[] NEAREST = {ANY_KIND, ANY_KIND, FRUIT, FRUIT, ANY_KIND, CLOTH};

    private static final int LEFT = 0;
    private static final int RIGHT = 1;

    private static final int TAKEN = 0;
    private static final int LAID = 1;
    private static final int DAY = 2;

    private final Row[] rows = new Row[ROWS];
    private final Tape tape = new Tape();
    private final Market now = new Market();
    private final Market draft = new Market();
    private final Market[] images = new Market[IMAGES];
    private final Acts acts = new Acts();
    private final Duel duel = new Duel();
    private final Seer seer = new Seer();
    private final int[] bodies = new int[TRACE];
    private int begun;
    private int latestFault;
    private int latestFinding;

    public HeapEnds() {
        for (int i = 0; i < ROWS; i++) {
            rows[i] = new Row();
        }
        for (int i = 0; i < IMAGES; i++) {
            images[i] = new Market();
        }
    }

    // ---- rows

    public int row(int row, int lane, int n) {
        if (isNoRow(row) || lane < BYTES || lane > INTS || n > ITEMS) {
            return BAD;
        }
        if (n < 0) {
            return found(SIZE);
        }
        rows[row].begin(lane, n);
        return unfound(n);
    }

    public int set(int row, int i, int v) {
        if (isNoRow(row)) {
            return BAD;
        }
        int finding = findingOf(row, i, 1);
        if (finding != 0) {
            return found(finding);
        }
        return unfound(rows[row].put(i, v));
    }

    public int copy(int a, int i, int b, int j, int n) {
        if (isNoRow(a) || isNoRow(b)) {
            return BAD;
        }
        Row from = rows[a];
        Row to = rows[b];
        if (!from.there || !to.there) {
            return found(NULL);
        }
        if (from.lane != to.lane) {
            return found(STORE);
        }
        if (!from.reaches(i, n) || !to.reaches(j, n)) {
            return found(PLACE);
        }
        System.arraycopy(from.items, i, to.items, j, n);
        return unfound(n);
    }

    public int drop(int row) {
        if (isNoRow(row)) {
            return BAD;
        }
        if (!rows[row].there) {
            return found(NULL);
        }
        rows[row].there = false;
        return unfound(rows[row].size);
    }

    // ---- markets, acts

    public int feed(long w, int n) {
        if (n < 1 || n > WORD) {
            return BAD;
        }
        if (tape.length + n > TAPE) {
            return FULL;
        }
        for (int i = n - 1; i >= 0; i--) {
            tape.append((int) (w >> 8 * i) & 255);
        }
        return tape.length;
    }

    public int market() {
        if (!tape.readInto(draft)) {
            latestFault = tape.fault;
            return FAULTY - tape.faultAt;
        }
        now.become(draft);
        acts.forget();
        return now.wares;
    }

    public int fault() {
        return latestFault;
    }

    public int take(int buyer, int end) {
        if (isNoBuyer(buyer) || isNoEnd(end)) {
            return BAD;
        }
        if (now.lying == 0) {
            return STATE;
        }
        int ware = now.wareAt(end);
        if (now.purse[buyer] < now.valueIn(ware, 0)) {
            return STATE;
        }
        acts.keep(TAKEN, end, ware);
        return now.sell(buyer, end);
    }

    public int lay(int kind, int worth, int end) {
        if (!now.stands) {
            return STATE;
        }
        if (kind < FRUIT || kind > SILK || worth < 0 || worth > MOST_WORTH || isNoEnd(end)) {
            return BAD;
        }
        if (now.wares == WARES) {
            return FULL;
        }
        int ware = now.addWare(kind, worth, 0, end);
        acts.keep(LAID, end, ware);
        return ware;
    }

    public int day() {
        if (!now.stands) {
            return STATE;
        }
        if (now.day >= LAST_DAY) {
            return FULL;
        }
        int rottenAhead = now.rottenIn(0);
        acts.keep(DAY, NONE, NONE);
        now.passDays(1);
        return now.rottenIn(0) & ~rottenAhead;
    }

    public int undo() {
        if (acts.kept == 0) {
            return STATE;
        }
        int act = acts.takeBack();
        switch (acts.deeds[act]) {
            case TAKEN:
                now.unsell(acts.wares[act], acts.ends[act]);
                break;
            case LAID:
                now.removeNewest(acts.ends[act]);
                break;
            default:
                now.passDays(-1);
        }
        return acts.kept;
    }

    public int ware(int ware, int what) {
        if (isNoWare(ware)) {
            return BAD;
        }
        switch (what) {
            case 0:
                return now.worth[ware];
            case 1:
                return now.age[ware];
            case 2:
                return now.valueIn(ware, 0);
            case 3:
                return now.placeOf(ware);
            case 4:
                return now.taker[ware];
            case 5:
                return now.valueIn(ware, 0) == 0 ? 1 : 0;
            default:
                return BAD;
        }
    }

    public int buyer(int buyer, int what) {
        if (isNoBuyer(buyer)) {
            return BAD;
        }
        switch (what) {
            case 0:
                return now.taste[buyer];
            case 1:
                return now.purse[buyer];
            case 2:
                return now.gained[buyer];
            case 3:
                return now.bought[buyer];
            default:
                return BAD;
        }
    }

    public int worth(int ware, int buyer) {
        if (isNoWare(ware) || isNoBuyer(buyer)) {
            return BAD;
        }
        return now.valueTo(buyer, ware, 0);
    }

    // ---- foretold

    public int best(int a, int b, int what) {
        if (areNoTwo(a, b) || what < 0 || what > 2) {
            return BAD;
        }
        duel.seat(now, a, b);
        duel.lineUpFrom(0);
        duel.play();
        switch (what) {
            case 0:
                return duel.gainOfA();
            case 1:
                return duel.gainOfB();
            default:
                return duel.firstEnd;
        }
    }

    public int passBy(int a, int b) {
        if (areNoTwo(a, b)) {
            return BAD;
        }
        duel.seat(now, a, b);
        duel.lineUpFrom(0);
        duel.play();
        int without = duel.gainOfA();
        duel.playWithPass();
        return Math.max(0, duel.gainOfA() - without);
    }

    public int laid(int a, int b, int k) {
        if (areNoTwo(a, b) || k < -1) {
            return BAD;
        }
        if (now.lying > MOST_LAID) {
            return FULL;
        }
        if (k >= now.lying) {
            return NONE;
        }
        duel.seat(now, a, b);
        int gain = duel.findLaid();
        return k < 0 ? gain : duel.laid[k];
    }

    public int ring(int a, int b, int what) {
        if (areNoTwo(a, b) || what < 0 || what > 1) {
            return BAD;
        }
        if (now.lying == 0) {
            return NONE;
        }
        duel.seat(now, a, b);
        int gain = duel.findCut();
        return what == 0 ? gain : duel.cut;
    }

    public int line(int row, int i, int n, int who) {
        if (!now.stands) {
            return STATE;
        }
        if (isNoRow(row) || n < 1 || n > ITEMS || who < -1 || who >= now.buyers) {
            return BAD;
        }
        int finding = findingOf(row, i, n);
        if (finding != 0) {
            return found(finding);
        }
        if (!rows[row].isBelow(now.buyers, i, n)) {
            return BAD;
        }
        return unfound(seer.behindLine(now, rows[row], i, n, who));
    }

    public int rots(int n, int what) {
        if (!now.stands) {
            return STATE;
        }
        if (n < 0 || n > MOST_DAYS || what < 0 || what > 2) {
            return BAD;
        }
        int rotten = now.rottenIn(n);
        switch (what) {
            case 0:
                return Integer.bitCount(rotten);
            case 1:
                return rotten;
            default:
                return rotten & ~now.bitsAtEnds();
        }
    }

    public int reach(int ware, int what) {
        if (isNoWare(ware) || what < 0 || what > 1) {
            return BAD;
        }
        int place = now.placeOf(ware);
        if (place == NONE) {
            return STATE;
        }
        return what == 0 ? seer.fewestTill(now, place) : seer.leastAhead(now, place);
    }

    public int harvest(int buyer, int k) {
        if (isNoBuyer(buyer) || k < -1) {
            return BAD;
        }
        if (k >= now.lying) {
            return NONE;
        }
        seer.harvestFor(now, buyer);
        return k < 0 ? seer.most[0] : seer.ends[0] >> k & 1;
    }

    public int judge(int row, int i, int n) {
        if (!now.stands) {
            return STATE;
        }
        if (isNoRow(row) || n < 1 || n > WARES) {
            return BAD;
        }
        int finding = findingOf(row, i, n);
        if (finding != 0) {
            return found(finding);
        }
        if (!rows[row].isBelow(now.wares, i, n)) {
            return BAD;
        }
        return unfound(seer.firstWrong(now, rows[row], i, n));
    }

    public int heard(int buyer, int row, int i, int n, int what) {
        if (isNoBuyer(buyer) || isNoRow(row) || n < 1 || n > MOST_HEARD || what < 0 || what > 1) {
            return BAD;
        }
        int finding = findingOf(row, i, n);
        if (finding != 0) {
            return found(finding);
        }
        seer.hear(now, buyer, rows[row], i, n);
        return unfound(what == 0 ? seer.waysOf(n) : seer.surelyTaken(now, n));
    }

    public int apart(int buyer, int p, int k) {
        if (isNoBuyer(buyer) || p < 0 || p > now.lying || k < 0 || k > now.lying) {
            return BAD;
        }
        return seer.mostApart(now, buyer, p, k);
    }

    public int image(int k) {
        if (k < 0 || k >= IMAGES) {
            return BAD;
        }
        if (!now.stands) {
            return STATE;
        }
        images[k].become(now);
        return 1;
    }

    public int restore(int k) {
        if (k < 0 || k >= IMAGES) {
            return BAD;
        }
        if (!images[k].stands) {
            return STATE;
        }
        now.become(images[k]);
        acts.forget();
        return 1;
    }

    // ---- asked

    public int kind(int ware) {
        return isNoWare(ware) ? BAD : now.kind[ware];
    }

    public int as(int ware, int kind) {
        if (isNoWare(ware) || kind < ANY_KIND || kind > SILK) {
            return BAD;
        }
        return isSuch(now.kind[ware], kind) ? unfound(ware) : found(KIND);
    }

    public int ask(int ware, int what) {
        if (isNoWare(ware) || what < 0 || what > 1) {
            return BAD;
        }
        begun = 0;
        if (isSuch(now.kind[ware], FRUIT)) {
            return what == 0 ? sizeOfFruit(ware) : markOfFruit(ware);
        }
        return what == 0 ? sizeOfCloth(ware) : markOfCloth(ware);
    }

    public int trace(int i) {
        return i < 0 || i >= begun ? NONE : bodies[i];
    }

    public int count(int what) {
        switch (what) {
            case 0:
                return rowsThere();
            case 1:
                return now.buyers;
            case 2:
                return now.wares;
            case 3:
                return now.lying;
            case 4:
                return now.day;
            case 5:
                return acts.kept;
            case 6:
                return tape.length;
            default:
                return BAD;
        }
    }

    public int status() {
        return latestFinding;
    }

    // ---- what the calls share

    private int found(int finding) {
        latestFinding = finding;
        return FOUND - finding;
    }

    private int unfound(int answer) {
        latestFinding = 0;
        return answer;
    }

    /** What is found first where n ITEMS of a ROW from i on are wanted; 0: nothing. */
    private int findingOf(int row, int i, int n) {
        if (!rows[row].there) {
            return NULL;
        }
        return rows[row].reaches(i, n) ? 0 : PLACE;
    }

    private int rowsThere() {
        int there = 0;
        for (int i = 0; i < ROWS; i++) {
            if (rows[i].there) {
                there++;
            }
        }
        return there;
    }

    private boolean isNoRow(int row) {
        return row < 0 || row >= ROWS;
    }

    private boolean isNoBuyer(int buyer) {
        return buyer < 0 || buyer >= now.buyers;
    }

    private boolean areNoTwo(int a, int b) {
        return isNoBuyer(a) || isNoBuyer(b) || a == b;
    }

    private boolean isNoWare(int ware) {
        return ware < 0 || ware >= now.wares;
    }

    private boolean isNoEnd(int end) {
        return end != LEFT && end != RIGHT;
    }

    /** Whether all of a KIND are of the wanted KIND, too; the KINDS are three deep at most. */
    private static boolean isSuch(int kind, int wanted) {
        return wanted == ANY_KIND || wanted == kind || wanted == NEAREST[kind];
    }

    // ---- bodies: each leaves its number as it begins, ahead of what it asks of others

    private void leave(int body) {
        if (begun < TRACE) {
            bodies[begun] = body;
            begun++;
        }
    }

    private int sizeLent(int ware) {
        leave(10);
        return now.worth[ware];
    }

    private int sizeOfFruit(int ware) {
        boolean melon = now.kind[ware] == MELON;
        if (melon) {
            leave(12);
        }
        leave(11);
        int size = sizeLent(ware) + markOfFruit(ware);
        return melon ? -size : size;
    }

    private int sizeOfCloth(int ware) {
        boolean silk = now.kind[ware] == SILK;
        if (silk) {
            leave(14);
        }
        leave(13);
        int size = sizeLent(ware) - 100;
        return silk ? 2 * size : size;
    }

    private int markLent(int ware) {
        leave(20);
        return ware;
    }

    private int markOfFruit(int ware) {
        int kind = now.kind[ware];
        if (kind == MELON) {
            leave(24);
        } else if (kind == BERRY) {
            leave(22);
        }
        leave(21);
        int mark = markLent(ware) + now.age[ware];
        if (kind == MELON) {
            return 2 * mark;
        }
        return kind == BERRY ? mark - 1000 : mark;
    }

    private int markOfCloth(int ware) {
        leave(23);
        return markLent(ware) - sizeOfCloth(ware);
    }

    /** A row of items; a missing one keeps its array for the next that stands there. */
    static final class Row {
        final int[] items = new int[ITEMS];
        boolean there;
        int lane;
        int size;

        void begin(int newLane, int n) {
            there = true;
            lane = newLane;
            size = n;
            Arrays.fill(items, 0);
        }

        int put(int i, int v) {
            items[i] = cutToLane(v);
            return items[i];
        }

        private int cutToLane(int v) {
            switch (lane) {
                case BYTES:
                    return (byte) v;
                case SHORTS:
                    return (short) v;
                default:
                    return v;
            }
        }

        /** Whether n items from i on are there; the sum of both could be too great for an int. */
        boolean reaches(int i, int n) {
            return i >= 0 && n >= 0 && i <= size && n <= size - i;
        }

        /** Whether n items from i on are all numbers of things of which there are so many. */
        boolean isBelow(int bound, int i, int n) {
            for (int k = i; k < i + n; k++) {
                if (items[k] < 0 || items[k] >= bound) {
                    return false;
                }
            }
            return true;
        }
    }

    /** The bytes that were fed, and the reading of them token by token. */
    static final class Tape {
        private static final int CANNOT_STAND = 1;
        private static final int NOT_AS_TOLD = 2;
        private static final int NO_ROOM = 3;

        private static final int NAME = 0;
        private static final int NUMBER = 1;
        private static final int SIGN = 2;
        private static final int ENDED = 3;
        private static final int NOTHING = 4;
        private static final int MOST_FIGURES = 3;

        int length;
        int fault;
        int faultAt;
        private final int[] bytes = new int[TAPE];
        private int start;
        private int end;
        private int token;
        private int value;

        void append(int b) {
            if (length < TAPE) {
                bytes[length] = b;
                length++;
            }
        }

        /** Reads all and empties the tape; whether there was no fault. */
        boolean readInto(Market market) {
            market.clear();
            fault = 0;
            end = 0;
            step();
            readLaw(market);
            for (int i = 0; i < TAPE && isWord("buyer"); i++) {
                readBuyer(market);
            }
            for (int i = 0; i < TAPE && isWord("ware"); i++) {
                readWare(market);
            }
            if (token != ENDED) {
                fail(CANNOT_STAND);
            }
            length = 0;
            return fault == 0;
        }

        private void readLaw(Market market) {
            if (isWord("law")) {
                step();
            } else {
                fail(CANNOT_STAND);
            }
            market.turn = readNumber(1);
            readSign();
        }

        private void readBuyer(Market market) {
            if (market.buyers == BUYERS) {
                fail(NO_ROOM);
                return;
            }
            step();
            int taste = readNumber(SILK);
            int purse = readNumber(MOST_PURSE);
            readSign();
            if (fault == 0) {
                market.addBuyer(taste, purse);
            }
        }

        private void readWare(Market market) {
            if (market.wares == TOLD_WARES) {
                fail(NO_ROOM);
                return;
            }
            step();
            int kind = readSort();
            int worth = readNumber(MOST_WORTH);
            int age = readNumber(MOST_AGE);
            readSign();
            if (fault == 0) {
                market.addWare(kind, worth, age, RIGHT);
            }
        }

        private int readSort() {
            for (int kind = FRUIT; kind <= SILK; kind++) {
                if (isWord(wordOf(kind))) {
                    step();
                    return kind;
                }
            }
            fail(CANNOT_STAND);
            return ANY_KIND;
        }

        private static String wordOf(int kind) {
            switch (kind) {
                case FRUIT:
                    return "fruit";
                case MELON:
                    return "melon";
                case BERRY:
                    return "berry";
                case CLOTH:
                    return "cloth";
                default:
                    return "silk";
            }
        }

        private int readNumber(int most) {
            if (token != NUMBER) {
                fail(CANNOT_STAND);
                return 0;
            }
            if (value > most) {
                fail(NOT_AS_TOLD);
                return 0;
            }
            int read = value;
            step();
            return read;
        }

        private void readSign() {
            if (token == SIGN) {
                step();
            } else {
                fail(CANNOT_STAND);
            }
        }

        /** Only the first fault counts; behind it no token fits any more, so that all reading ends. */
        private void fail(int number) {
            if (fault == 0) {
                fault = number;
                faultAt = start;
            }
            token = NOTHING;
        }

        private boolean isWord(String word) {
            if (token != NAME || end - start != word.length()) {
                return false;
            }
            for (int i = 0; i < word.length(); i++) {
                if (bytes[start + i] != word.charAt(i)) {
                    return false;
                }
            }
            return true;
        }

        /** Goes on to the next token. */
        private void step() {
            start = end;
            while (start < length && isBlank(bytes[start])) {
                start++;
            }
            end = start;
            if (start >= length) {
                token = ENDED;
            } else if (isLetter(bytes[start])) {
                stepName();
            } else if (isFigure(bytes[start])) {
                stepNumber();
            } else {
                token = bytes[start] == ';' ? SIGN : NOTHING;
                end = start + 1;
            }
        }

        private void stepName() {
            while (end < length && isLetter(bytes[end])) {
                end++;
            }
            token = NAME;
        }

        private void stepNumber() {
            value = 0;
            while (end < length && isFigure(bytes[end])) {
                if (end - start < MOST_FIGURES) {
                    value = 10 * value + bytes[end] - '0';
                }
                end++;
            }
            token = end - start <= MOST_FIGURES ? NUMBER : NOTHING;
        }

        private static boolean isBlank(int b) {
            return b == ' ' || b == '\n';
        }

        private static boolean isLetter(int b) {
            return b >= 'a' && b <= 'z';
        }

        private static boolean isFigure(int b) {
            return b >= '0' && b <= '9';
        }
    }

    /** Buyers, wares, and the heap of those wares that lie. */
    static final class Market {
        private static final int RIPE = 5;

        boolean stands;
        int turn;
        int day;
        int buyers;
        int wares;
        int lying;
        final int[] taste = new int[BUYERS];
        final int[] purse = new int[BUYERS];
        final int[] gained = new int[BUYERS];
        final int[] bought = new int[BUYERS];
        final int[] kind = new int[WARES];
        final int[] worth = new int[WARES];
        final int[] age = new int[WARES];
        final int[] taker = new int[WARES];
        final int[] heap = new int[WARES];

        /** A market without buyers and wares, for a text to fill. */
        void clear() {
            stands = true;
            turn = 0;
            day = 0;
            buyers = 0;
            wares = 0;
            lying = 0;
        }

        void become(Market other) {
            stands = other.stands;
            turn = other.turn;
            day = other.day;
            buyers = other.buyers;
            wares = other.wares;
            lying = other.lying;
            System.arraycopy(other.taste, 0, taste, 0, BUYERS);
            System.arraycopy(other.purse, 0, purse, 0, BUYERS);
            System.arraycopy(other.gained, 0, gained, 0, BUYERS);
            System.arraycopy(other.bought, 0, bought, 0, BUYERS);
            System.arraycopy(other.kind, 0, kind, 0, WARES);
            System.arraycopy(other.worth, 0, worth, 0, WARES);
            System.arraycopy(other.age, 0, age, 0, WARES);
            System.arraycopy(other.taker, 0, taker, 0, WARES);
            System.arraycopy(other.heap, 0, heap, 0, WARES);
        }

        void addBuyer(int hisTaste, int hisPurse) {
            taste[buyers] = hisTaste;
            purse[buyers] = hisPurse;
            gained[buyers] = 0;
            bought[buyers] = 0;
            buyers++;
        }

        int addWare(int itsKind, int itsWorth, int itsAge, int end) {
            int ware = wares;
            kind[ware] = itsKind;
            worth[ware] = itsWorth;
            age[ware] = itsAge;
            taker[ware] = NONE;
            wares++;
            putAt(end, ware);
            return ware;
        }

        void removeNewest(int end) {
            removeAt(end);
            wares--;
        }

        int sell(int buyer, int end) {
            int ware = wareAt(end);
            int gain = valueTo(buyer, ware, 0);
            purse[buyer] -= valueIn(ware, 0);
            gained[buyer] += gain;
            bought[buyer]++;
            taker[ware] = buyer;
            removeAt(end);
            return gain;
        }

        /** The age of what is taken stands still, so its value is still the one that was paid. */
        void unsell(int ware, int end) {
            int buyer = taker[ware];
            purse[buyer] += valueIn(ware, 0);
            gained[buyer] -= valueTo(buyer, ware, 0);
            bought[buyer]--;
            taker[ware] = NONE;
            putAt(end, ware);
        }

        void passDays(int days) {
            day += days;
            for (int i = 0; i < lying; i++) {
                age[heap[i]] += days;
            }
        }

        int wareAt(int end) {
            return heap[end == LEFT ? 0 : lying - 1];
        }

        int placeOf(int ware) {
            for (int i = 0; i < lying; i++) {
                if (heap[i] == ware) {
                    return i;
                }
            }
            return NONE;
        }

        int bitsAtEnds() {
            return lying == 0 ? 0 : 1 << wareAt(LEFT) | 1 << wareAt(RIGHT);
        }

        /** Which of those that lie are rotten when so many days more are gone. */
        int rottenIn(int days) {
            int rotten = 0;
            for (int i = 0; i < lying; i++) {
                if (valueIn(heap[i], days) == 0) {
                    rotten |= 1 << heap[i];
                }
            }
            return rotten;
        }

        int valueIn(int ware, int days) {
            return Math.max(0, ripened(kind[ware], worth[ware], age[ware] + days));
        }

        int valueTo(int buyer, int ware, int days) {
            int value = valueIn(ware, days);
            return isSuch(kind[ware], taste[buyer]) ? 2 * value : value;
        }

        private static int ripened(int kind, int worth, int age) {
            switch (kind) {
                case FRUIT:
                    return worth - age;
                case MELON:
                    return age <= RIPE ? worth + age : worth + RIPE - 2 * (age - RIPE);
                case BERRY:
                    return worth - 2 * age;
                case SILK:
                    return worth + age / 3;
                default:
                    return worth;
            }
        }

        private void putAt(int end, int ware) {
            if (end == LEFT) {
                System.arraycopy(heap, 0, heap, 1, lying);
                heap[0] = ware;
            } else {
                heap[lying] = ware;
            }
            lying++;
        }

        private void removeAt(int end) {
            lying--;
            if (end == LEFT) {
                System.arraycopy(heap, 1, heap, 0, lying);
            }
        }
    }

    /** The acts that can be undone, in a ring, so that the oldest gives way to a new one. */
    static final class Acts {
        final int[] deeds = new int[ACTS];
        final int[] ends = new int[ACTS];
        final int[] wares = new int[ACTS];
        int kept;
        private int next;

        void keep(int deed, int end, int ware) {
            deeds[next] = deed;
            ends[next] = end;
            wares[next] = ware;
            next = (next + 1) % ACTS;
            kept = Math.min(kept + 1, ACTS);
        }

        /** The place of the latest act, which is kept no longer. */
        int takeBack() {
            next = (next + ACTS - 1) % ACTS;
            kept--;
            return next;
        }

        void forget() {
            kept = 0;
        }
    }

    /**
     * Two who buy by turns, from the last ware back: for each length, from one ware on, the gains
     * in the part of the row that begins at a place stand at that place, over those of one less.
     */
    static final class Duel {
        private static final int ORDERS = 720;

        final int[] laid = new int[MOST_LAID];
        int cut;
        int firstEnd;
        private int turn;
        private int lying;
        private final int[] heap = new int[WARES];
        private final int[] toA = new int[WARES];
        private final int[] toB = new int[WARES];
        private final int[] rowToA = new int[WARES];
        private final int[] rowToB = new int[WARES];
        private final int[] gainA = new int[WARES + 1];
        private final int[] gainB = new int[WARES + 1];
        private final int[] passedA = new int[WARES + 1];
        private final int[] passedB = new int[WARES + 1];

        /** The heap, as it is now, and what each ware in it is worth to both. */
        void seat(Market market, int a, int b) {
            turn = market.turn;
            lying = market.lying;
            for (int i = 0; i < lying; i++) {
                int ware = market.heap[i];
                heap[i] = ware;
                toA[ware] = market.valueTo(a, ware, 0);
                toB[ware] = market.valueTo(b, ware, 0);
            }
        }

        /** The row begins with the ware at a place, and goes on around to the one ahead of it. */
        void lineUpFrom(int first) {
            for (int i = 0; i < lying; i++) {
                int place = first + i < lying ? first + i : first + i - lying;
                rowToA[i] = toA[heap[place]];
                rowToB[i] = toB[heap[place]];
            }
        }

        int gainOfA() {
            return gainA[0];
        }

        int gainOfB() {
            return gainB[0];
        }

        void play() {
            firstEnd = NONE;
            clearGains(gainA, gainB);
            for (int n = 1; n <= lying; n++) {
                boolean turnOfA = isTurnOfA(lying - n);
                for (int i = 0; i + n <= lying; i++) {
                    firstEnd = takeEnd(gainA, gainB, i, n, turnOfA);
                }
            }
        }

        /** A pass counts as a turn, so behind it each take comes a turn later. */
        void playWithPass() {
            clearGains(gainA, gainB);
            clearGains(passedA, passedB);
            for (int n = 1; n <= lying; n++) {
                boolean turnOfA = isTurnOfA(lying - n);
                boolean nextOfA = isTurnOfA(lying - n + 1);
                for (int i = 0; i + n <= lying; i++) {
                    takeEnd(passedA, passedB, i, n, nextOfA);
                    takeEnd(gainA, gainB, i, n, turnOfA);
                    if (turnOfA && passedA[i] > gainA[i]) {
                        gainA[i] = passedA[i];
                        gainB[i] = passedB[i];
                    }
                }
            }
        }

        /** Looks at all rows of the wares that lie, in the order of their numbers; the most to a. */
        int findLaid() {
            int most = -1;
            sortHeap();
            boolean more = true;
            for (int i = 0; i < ORDERS && more; i++) {
                lineUpFrom(0);
                play();
                if (gainA[0] > most) {
                    most = gainA[0];
                    System.arraycopy(heap, 0, laid, 0, lying);
                }
                more = goToNextOrder();
            }
            return most;
        }

        /** Looks at all cuts of the ring; the most to a. */
        int findCut() {
            int most = -1;
            for (int c = 0; c < lying; c++) {
                lineUpFrom(c);
                play();
                if (gainA[0] > most) {
                    most = gainA[0];
                    cut = c;
                }
            }
            return most;
        }

        private void clearGains(int[] ofA, int[] ofB) {
            for (int i = 0; i <= lying; i++) {
                ofA[i] = 0;
                ofB[i] = 0;
            }
        }

        /** Whose turn it is when so many went by: one each, or one and then two each. */
        private boolean isTurnOfA(int gone) {
            int changes = turn == 0 ? gone : (gone + 1) / 2;
            return changes % 2 == 0;
        }

        /** One turn in the n wares from i on: the end that is taken; the gains become those with it. */
        private int takeEnd(int[] ofA, int[] ofB, int i, int n, boolean turnOfA) {
            int[] his = turnOfA ? ofA : ofB;
            int[] others = turnOfA ? ofB : ofA;
            int[] rowToHim = turnOfA ? rowToA : rowToB;
            int byLeft = rowToHim[i] + his[i + 1];
            int byRight = rowToHim[i + n - 1] + his[i];
            if (byRight > byLeft) {
                his[i] = byRight;
                return RIGHT;
            }
            his[i] = byLeft;
            others[i] = others[i + 1];
            return LEFT;
        }

        private void sortHeap() {
            for (int i = 1; i < lying; i++) {
                for (int j = i; j > 0 && heap[j - 1] > heap[j]; j--) {
                    swap(j - 1, j);
                }
            }
        }

        /** The next row by numbers of wares; false behind the last. */
        private boolean goToNextOrder() {
            int i = lying - 2;
            while (i >= 0 && heap[i] > heap[i + 1]) {
                i--;
            }
            if (i < 0) {
                return false;
            }
            int j = lying - 1;
            while (j > i && heap[j] < heap[i]) {
                j--;
            }
            swap(i, j);
            for (int a = i + 1, b = lying - 1; a < b; a++, b--) {
                swap(a, b);
            }
            return true;
        }

        private void swap(int i, int j) {
            int ware = heap[i];
            heap[i] = heap[j];
            heap[j] = ware;
        }
    }

    /** What is foretold of one buyer, of a line of them, and of rows that tell wares or values. */
    static final class Seer {
        final int[] most = new int[WARES + 1];
        final int[] ends = new int[WARES + 1];
        private final int[] ways = new int[MOST_HEARD + 1];
        private final int[] sums = new int[WARES + 1];

        /** How many wares lie behind a line of buyers (who -1), or what a buyer gains in it. */
        int behindLine(Market market, Row line, int from, int n, int who) {
            int left = 0;
            int right = market.lying - 1;
            int gain = 0;
            for (int i = from; i < from + n && left <= right; i++) {
                int buyer = line.items[i];
                int byLeft = market.valueTo(buyer, market.heap[left], 0);
                int byRight = market.valueTo(buyer, market.heap[right], 0);
                if (buyer == who) {
                    gain += Math.max(byLeft, byRight);
                }
                if (byRight > byLeft) {
                    right--;
                } else {
                    left++;
                }
            }
            return who < 0 ? right - left + 1 : gain;
        }

        int fewestTill(Market market, int place) {
            return Math.min(place + 1, market.lying - place);
        }

        int leastAhead(Market market, int place) {
            int toLeft = 0;
            int toRight = 0;
            for (int i = 0; i < market.lying; i++) {
                int value = market.valueIn(market.heap[i], 0);
                if (i < place) {
                    toLeft += value;
                } else if (i > place) {
                    toRight += value;
                }
            }
            return Math.min(toLeft, toRight);
        }

        /**
         * From the last ware back, as in a duel; the ends taken in a part of the row stand in the
         * bits of a number, the first of them lowest.
         */
        void harvestFor(Market market, int buyer) {
            Arrays.fill(most, 0);
            Arrays.fill(ends, 0);
            for (int n = 1; n <= market.lying; n++) {
                int days = market.lying - n;
                for (int i = 0; i + n <= market.lying; i++) {
                    int last = market.heap[i + n - 1];
                    int byLeft = market.valueTo(buyer, market.heap[i], days) + most[i + 1];
                    int byRight = market.valueTo(buyer, last, days) + most[i];
                    ends[i] = byRight > byLeft ? ends[i] << 1 | RIGHT : ends[i + 1] << 1 | LEFT;
                    most[i] = Math.max(byLeft, byRight);
                }
            }
        }

        /** The place, in what is told, of the first ware that cannot be taken then. */
        int firstWrong(Market market, Row told, int from, int n) {
            int left = 0;
            int right = market.lying - 1;
            for (int i = 0; i < n; i++) {
                int ware = told.items[from + i];
                if (left <= right && market.heap[left] == ware) {
                    left++;
                } else if (left <= right && market.heap[right] == ware) {
                    right--;
                } else {
                    return i;
                }
            }
            return NONE;
        }

        /** Leaves at each number of wares taken from the left in how many ways it can have been so. */
        void hear(Market market, int buyer, Row told, int from, int n) {
            Arrays.fill(ways, 0);
            ways[0] = 1;
            for (int gone = 0; gone < n; gone++) {
                int value = told.items[from + gone];
                for (int lefts = gone + 1; lefts >= 0; lefts--) {
                    int byLeft = lefts > 0 && isLeft(market, buyer, value, lefts - 1, gone) ? ways[lefts - 1] : 0;
                    int byRight = lefts <= gone && isRight(market, buyer, value, lefts, gone) ? ways[lefts] : 0;
                    ways[lefts] = byLeft + byRight;
                }
            }
        }

        /** Whether the leftmost has this value, when so many are gone, so many of them from the left. */
        private boolean isLeft(Market market, int buyer, int value, int lefts, int gone) {
            return gone < market.lying && market.valueTo(buyer, market.heap[lefts], 0) == value;
        }

        /** Likewise the rightmost; the last ware of all counts as the leftmost alone, as it is one way. */
        private boolean isRight(Market market, int buyer, int value, int lefts, int gone) {
            int place = market.lying - 1 - (gone - lefts);
            return gone < market.lying - 1 && market.valueTo(buyer, market.heap[place], 0) == value;
        }

        int waysOf(int n) {
            int all = 0;
            for (int lefts = 0; lefts <= n; lefts++) {
                all += ways[lefts];
            }
            return all;
        }

        int surelyTaken(Market market, int n) {
            int sure = -1;
            for (int lefts = 0; lefts <= n; lefts++) {
                if (ways[lefts] > 0) {
                    sure &= bitsOf(market, 0, lefts) | bitsOf(market, market.lying - (n - lefts), n - lefts);
                }
            }
            return sure == -1 ? NONE : sure;
        }

        private int bitsOf(Market market, int from, int n) {
            int bits = 0;
            for (int i = from; i < from + n; i++) {
                bits |= 1 << market.heap[i];
            }
            return bits;
        }

        int mostApart(Market market, int buyer, int p, int k) {
            int others = market.lying - p;
            int gain = 0;
            addUp(market, buyer);
            for (int n = Math.max(0, k - others); n <= Math.min(p, k); n++) {
                gain = Math.max(gain, mostOfStall(0, p, n) + mostOfStall(p, others, k - n));
            }
            return gain;
        }

        /** Leaves at each place what all wares ahead of it are worth to him. */
        private void addUp(Market market, int buyer) {
            sums[0] = 0;
            for (int i = 0; i < market.lying; i++) {
                sums[i + 1] = sums[i] + market.valueTo(buyer, market.heap[i], 0);
            }
        }

        /** Of a stall of so many wares from a place on n are taken: those that stay are beside one another. */
        private int mostOfStall(int from, int size, int n) {
            int stay = size - n;
            int least = sums[from + stay] - sums[from];
            for (int i = from; i <= from + n; i++) {
                least = Math.min(least, sums[i + stay] - sums[i]);
            }
            return sums[from + size] - sums[from] - least;
        }
    }
}
