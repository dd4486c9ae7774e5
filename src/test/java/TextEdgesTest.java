/** Promises 6 to 8, TEXTS and FAULTS: each sentence that tells of an edge, by itself. */
public final class TextEdgesTest {
    private static final int LEAST = Integer.MIN_VALUE;
    private static final int MOST = Integer.MAX_VALUE;
    private static final String BUYER = "buyer 5 200;";
    private static final String WARE = "ware silk 1 1;";

    public static void main(String[] args) {
        feedLowestBytes();
        feedHighestFirst();
        feedBad();
        feedFull();
        mostBytes();
        names();
        numbers();
        signs();
        between();
        anyByteBehindAName();
        anyByteForASign();
        anyByteForALetter();
        lawFirst();
        turns();
        tastesAndPurses();
        mostBuyers();
        sorts();
        worthsAndAges();
        mostWares();
        nothingBehind();
        inPlaceOfTheOneBefore();
        imagesAndRowsStay();
        firstToken();
        leastOfOneToken();
        notAsTold();
        runsOfFigures();
        theEnd();
        emptyThen();
        nothingOfTheOneBefore();
        howManyWares();
        faultPlaces();
        allStays();
        faultTellsThisOne();
        latestFault();
        Due.end("TextEdgesTest");
    }

    private static void dueWares(String text, int wares) {
        HeapEnds x = new HeapEnds();
        Due.feed(x, text);
        Due.due("market() of '" + text + "'", x.market(), wares);
        Due.due("fault() of '" + text + "'", x.fault(), 0);
    }

    /** The place of the fault is where the bar stands, which is no part of the text. */
    private static void dueFault(String marked, int fault) {
        int place = marked.indexOf('|');
        String text = marked.substring(0, place) + marked.substring(place + 1);
        HeapEnds x = new HeapEnds();
        Due.feed(x, text);
        Due.due("market() of '" + marked + "'", x.market(), -1000100 - place);
        Due.due("fault() of '" + marked + "'", x.fault(), fault);
        Due.due("count(6) behind '" + marked + "'", x.count(6), 0);
        Due.due("no MARKET of '" + marked + "'", x.image(0), Due.STATE);
    }

    private static void feedLowestBytes() {
        Due.sentence("Promise 6, feed", "The lowest n bytes of w (1 to 8)");
        HeapEnds x = new HeapEnds();
        String text = "law 0;  ";
        for (int n = 1, i = 0; i < text.length(); n++) {
            int some = Math.min(n, text.length() - i);
            long w = -1;
            for (int k = 0; k < some; k++) {
                w = w << 8 | text.charAt(i + k);
            }
            i += some;
            Due.due("the lowest " + some, x.feed(w, some), i);
        }
        Due.due("market()", x.market(), 0);
        Due.due("eight", x.feed(0x6c61772030203b20L, 8), 8);
        Due.due("market()", x.market(), 0);
        Due.due("one", x.feed(0x6c61772030203b0aL, 1), 1);
        Due.due("market() of a byte 10", x.market(), -1000101);
    }

    private static void feedHighestFirst() {
        Due.sentence("Promise 6, feed", "the highest of them first, come behind the tape: how many it has");
        HeapEnds x = new HeapEnds();
        Due.due("la", x.feed(0x6c61, 2), 2);
        Due.due("w", x.feed(0x77, 1), 3);
        Due.due(" 0;", x.feed(0x20303b, 3), 6);
        Due.due("market()", x.market(), 0);
        Due.due("0;", x.feed(0x3b30, 2), 2);
        Due.due("the sign is first", x.market(), -1000100);
        Due.due("the highest bit of all", x.feed(0x806c617720303b20L, 8), 8);
        Due.due("its byte is no TOKEN", x.market(), -1000100);
        Due.due("a byte of bits alone behind a blank", x.feed(0x20ff, 2), 2);
        Due.due("market()", x.market(), -1000101);
        Due.due("all bits", x.feed(-1, 8), 8);
        Due.due("market()", x.market(), -1000100);
        Due.due("fault()", x.fault(), 1);
    }

    private static void feedBad() {
        Due.sentence("Promise 6, feed", "BAD: n");
        for (int n : new int[] {0, -1, 9, -8, LEAST, MOST}) {
            Twins.dueBad("feed(0x20, " + n + ")", x -> x.feed(0x20, n));
        }
        HeapEnds x = Twins.shop();
        Due.due("feed(0x20, 1)", x.feed(0x20, 1), 5);
        Due.due("feed(0x20, 8)", x.feed(0x20, 8), 13);
    }

    private static HeapEnds fed(int bytes) {
        HeapEnds x = Twins.shop();
        Due.feed(x, " ".repeat(bytes - x.count(6)));
        return x;
    }

    private static void feedFull() {
        Due.sentence("Promise 6, feed", "FULL: none comes.");
        Twins.dueRefused(() -> fed(400), "400 and feed(0, 1)", x -> x.feed(0, 1), Due.FULL);
        Twins.dueRefused(() -> fed(400), "400 and feed(0, 8)", x -> x.feed(0, 8), Due.FULL);
        Twins.dueRefused(() -> fed(393), "393 and feed(0, 8)", x -> x.feed(0, 8), Due.FULL);
        Twins.dueRefused(() -> fed(399), "399 and feed(0, 2)", x -> x.feed(0, 2), Due.FULL);
        Due.due("393 and feed(0, 7)", fed(393).feed(0, 7), 400);
        Due.due("392 and feed(0, 8)", fed(392).feed(0, 8), 400);
        Due.due("399 and feed(0, 1)", fed(399).feed(0, 1), 400);
        Due.sentence("Terms (feed: BAD ahead of FULL)", "Refusals are answers, the first of these that fits");
        Twins.dueRefused(() -> fed(400), "400 and feed(0, 9)", x -> x.feed(0, 9), Due.BAD);
        Twins.dueRefused(() -> fed(400), "400 and feed(0, 0)", x -> x.feed(0, 0), Due.BAD);
    }

    private static void mostBytes() {
        Due.sentence("Terms, TEXTS", "THE TAPE has at most 400 bytes");
        String text = "law 0;" + BUYER.repeat(4) + WARE.repeat(10);
        String wide = text.replace(" ", "   ");
        HeapEnds x = new HeapEnds();
        Due.feed(x, wide + " ".repeat(399 - wide.length()) + "\n");
        Due.due("count(6)", x.count(6), 400);
        Due.due("all of them are read: market()", x.market(), 10);
        Due.feed(x, " ".repeat(400 - text.length()) + text);
        Due.due("the last of them, too: market()", x.market(), 10);
        Due.feed(x, " ".repeat(394) + "law 0;");
        Due.due("market()", x.market(), 0);
        Due.due("fault()", x.fault(), 0);
    }

    private static void names() {
        Due.sentence("Terms, TEXTS", "NAMES (letters a to z)");
        dueFault("|lawz 0;", 1);
        dueFault("|lawa 0;", 1);
        dueFault("|alaw 0;", 1);
        dueFault("|zlaw 0;", 1);
        dueFault("|la 0;", 1);
        dueFault("law |`0;", 1);
        dueFault("law 0;|{", 1);
        dueFault("law 0;|@", 1);
        dueFault("law 0;|Buyer 0 0;", 1);
        dueFault("law 0;|Z", 1);
    }

    private static void numbers() {
        Due.sentence("Terms, TEXTS", "NUMBERS (figures, 3 at most)");
        dueWares("law 0;buyer 5 9;", 0);
        dueWares("law 0;buyer 5 19;", 0);
        dueWares("law 0;buyer 5 199;", 0);
        dueWares("law 001;buyer 005 009;ware silk 030 009;", 1);
        dueWares("law 000;buyer 000 000;ware silk 000 000;", 1);
        dueFault("law 0;buyer 5 |0009;", 1);
        dueFault("law |/;", 1);
        dueFault("law |:;", 1);
        dueFault("law |-1;", 1);
    }

    private static void signs() {
        Due.sentence("Terms, TEXTS", "SIGNS ;");
        dueWares("law 0;", 0);
        dueWares("law 0 ;", 0);
        dueFault("law 0|:", 1);
        dueFault("law 0|<", 1);
        dueFault("law 0|,", 1);
        dueFault("law 0;|;", 1);
        dueFault("|;law 0;", 1);
    }

    private static void between() {
        Due.sentence("Terms, TEXTS", "bytes 32 and 10 between");
        dueWares("\n law\n\n0 \n;\n buyer 5\n200 ; ware\nsilk\n1\n1\n;\n", 1);
        dueWares("law 0;buyer 5 200;ware silk 1 1;", 1);
        dueFault("law |\t0;", 1);
        dueFault("law |\r\n0;", 1);
        dueFault("law 0;|\u00a0", 1);
    }

    private static boolean isLetter(int b) {
        return b >= 'a' && b <= 'z';
    }

    private static boolean isFigure(int b) {
        return b >= '0' && b <= '9';
    }

    private static boolean isBlank(int b) {
        return b == 32 || b == 10;
    }

    private static void dueByte(String where, String text, int due, int fault) {
        HeapEnds x = new HeapEnds();
        Due.feed(x, text);
        Due.due("market(): byte " + (int) text.charAt(where.length()) + " behind '" + where + "'", x.market(), due);
        Due.due("fault(): byte " + (int) text.charAt(where.length()) + " behind '" + where + "'", x.fault(), fault);
    }

    private static void anyByteBehindAName() {
        Due.sentence("Terms, TEXTS (each byte between 'law' and '0;')", "bytes 32 and 10 between");
        for (int b = 0; b < 256; b++) {
            String text = "law" + (char) b + "0;";
            if (isBlank(b) || b == '0') {
                dueByte("law", text, 0, 0);
            } else if (isLetter(b)) {
                dueByte("law", text, -1000100, 1);
            } else {
                dueByte("law", text, -1000103, isFigure(b) ? 2 : 1);
            }
        }
    }

    private static void anyByteForASign() {
        Due.sentence("Terms, TEXTS (each byte behind 'law 0')", "SIGNS ;");
        for (int b = 0; b < 256; b++) {
            String text = "law 0" + (char) b;
            if (b == ';') {
                dueByte("law 0", text, 0, 0);
            } else if (isBlank(b) || b == '0' || b == '1') {
                dueByte("law 0", text, -1000106, 1);
            } else if (isFigure(b)) {
                dueByte("law 0", text, -1000104, 2);
            } else {
                dueByte("law 0", text, -1000105, 1);
            }
        }
    }

    private static void anyByteForALetter() {
        Due.sentence("Terms, TEXTS (each byte in place of a letter)", "NAMES (letters a to z)");
        for (int b = 0; b < 256; b++) {
            boolean space = isBlank(b);
            dueByte("", (char) b + "aw 0;", b == 'l' ? 0 : space ? -1000101 : -1000100, b == 'l' ? 0 : 1);
            dueByte("la", "la" + (char) b + " 0;", b == 'w' ? 0 : -1000100, b == 'w' ? 0 : 1);
        }
    }

    private static void lawFirst() {
        Due.sentence("Terms, TEXTS", "market: law { buyer } { ware }");
        dueWares("law 0;", 0);
        dueWares("law 0;" + BUYER, 0);
        dueWares("law 0;" + WARE, 1);
        dueWares("law 0;" + BUYER + WARE, 1);
        dueFault("|" + BUYER + WARE, 1);
        dueFault("|" + WARE, 1);
        dueFault("law 0;" + WARE + "|" + BUYER, 1);
        dueFault("law 0;|law 0;", 1);
        dueFault("law 0;" + BUYER + "|law 0;", 1);
        dueFault("law 0;" + WARE + "|law 0;", 1);
        dueFault("|", 1);
    }

    private static void turns() {
        Due.sentence("Terms, TEXTS", "law: 'law' TURN ';' (0 or 1)");
        dueWares("law 0;", 0);
        dueWares("law 1;", 0);
        dueFault("law |2;", 2);
        dueFault("law |10;", 2);
        dueFault("law |999;", 2);
        dueFault("law |;", 1);
        dueFault("law |law;", 1);
        dueFault("law 0 |0;", 1);
        dueFault("law 0|buyer 0 0;", 1);
    }

    private static void tastesAndPurses() {
        Due.sentence("Terms, TEXTS", "buyer: 'buyer' TASTE PURSE ';' (0 to 5; 0 to 200;");
        HeapEnds x = Due.read("law 0;buyer 0 0;buyer 5 200;");
        Due.due("buyer(0, 0)", x.buyer(0, 0), 0);
        Due.due("buyer(0, 1)", x.buyer(0, 1), 0);
        Due.due("buyer(1, 0)", x.buyer(1, 0), 5);
        Due.due("buyer(1, 1)", x.buyer(1, 1), 200);
        dueFault("law 0;buyer |6 0;", 2);
        dueFault("law 0;buyer |999 0;", 2);
        dueFault("law 0;buyer 5 |201;", 2);
        dueFault("law 0;buyer 5 |999;", 2);
        dueFault("law 0;buyer |;", 1);
        dueFault("law 0;buyer |silk 1;", 1);
        dueFault("law 0;buyer 5|;", 1);
        dueFault("law 0;buyer 5 |buyer;", 1);
        dueFault("law 0;buyer 5 0 |0;", 1);
        dueFault("law 0;buyer 5 0|buyer 5 0;", 1);
    }

    private static void mostBuyers() {
        Due.sentence("Terms, TEXTS", "BUYERS 0 .. 3, 4 at most");
        HeapEnds x = Due.read("law 0;buyer 0 10;buyer 1 11;buyer 2 12;buyer 3 13;");
        Due.due("count(1)", x.count(1), 4);
        for (int buyer = 0; buyer < 4; buyer++) {
            Due.due("buyer(" + buyer + ", 1)", x.buyer(buyer, 1), 10 + buyer);
        }
        Due.due("buyer(4, 1)", x.buyer(4, 1), Due.BAD);
        Due.sentence("Terms, FAULTS", "3 a buyer, a ware more than there is room for (its word)");
        dueFault("law 0;" + BUYER.repeat(4) + "|buyer 5 200;", 3);
        dueFault("law 0;" + BUYER.repeat(4) + " |buyer", 3);
        dueFault("law 0;" + BUYER.repeat(4) + "|buyer 9 9;", 3);
        dueWares("law 0;" + BUYER.repeat(4) + WARE, 1);
    }

    private static void sorts() {
        Due.sentence("Terms, TEXTS", "SORT: 'fruit' | 'melon' | 'berry' | 'cloth' | 'silk'");
        HeapEnds x = Due.read("law 0;ware fruit 0 0;ware melon 0 0;ware berry 0 0;ware cloth 0 0;ware silk 0 0;");
        for (int ware = 0; ware < 5; ware++) {
            Due.due("kind(" + ware + ")", x.kind(ware), ware + 1);
        }
        String[] none = {"ware", "fruits", "frui", "melo", "melons", "berr", "berrya", "clot", "cloths", "sil", "silks", "law",
            "buyer", "f", "mruit", "beryr", "0", ";"};
        for (String sort : none) {
            dueFault("law 0;ware |" + sort + " 0 0;", 1);
        }
    }

    private static void worthsAndAges() {
        Due.sentence("Terms, TEXTS", "0 to 30; 0 to 9;");
        HeapEnds x = Due.read("law 0;ware silk 0 0;ware silk 30 9;");
        Due.due("ware(0, 0)", x.ware(0, 0), 0);
        Due.due("ware(0, 1)", x.ware(0, 1), 0);
        Due.due("ware(1, 0)", x.ware(1, 0), 30);
        Due.due("ware(1, 1)", x.ware(1, 1), 9);
        dueFault("law 0;ware silk |31 0;", 2);
        dueFault("law 0;ware silk |999 0;", 2);
        dueFault("law 0;ware silk 30 |10;", 2);
        dueFault("law 0;ware silk 30 |999;", 2);
        dueFault("law 0;ware silk |;", 1);
        dueFault("law 0;ware silk 30|;", 1);
        dueFault("law 0;ware silk 30 9 |9;", 1);
        dueFault("law 0;ware silk 30 9|ware silk 1 1;", 1);
    }

    private static void mostWares() {
        Due.sentence("Terms, TEXTS", "WARES 0 .. 9, 10 at most in a text");
        HeapEnds x = Due.read("law 0;" + "ware cloth 7 0;".repeat(9) + "ware silk 8 9;");
        Due.due("count(2)", x.count(2), 10);
        Due.due("ware(9, 0)", x.ware(9, 0), 8);
        Due.due("ware(10, 0)", x.ware(10, 0), Due.BAD);
        Due.sentence("Terms, FAULTS", "3 a buyer, a ware more than there is room for (its word)");
        dueFault("law 0;" + WARE.repeat(10) + "|ware silk 1 1;", 3);
        dueFault("law 0;" + WARE.repeat(10) + "\n|ware", 3);
        dueFault("law 0;" + WARE.repeat(10) + "|ware ware 99 99;", 3);
    }

    private static void nothingBehind() {
        Due.sentence("Terms, FAULTS", "1 it cannot stand there");
        dueFault("law 0;|0", 1);
        dueFault("law 0;|x", 1);
        dueFault("law 0;" + BUYER + "|7", 1);
        dueFault("law 0;" + WARE + "|;", 1);
        dueFault("law 0;" + WARE + "|wares silk 1 1;", 1);
        dueFault("law 0;|buyers 0 0;", 1);
        dueFault("law 0;|buye 0 0;", 1);
        dueFault("law 0;|war silk 0 0;", 1);
        dueFault("law 0;" + WARE.repeat(10) + "|law", 1);
        dueFault("law 0;" + WARE.repeat(10) + "|" + BUYER, 1);
        Due.sentence("Terms, FAULTS", "or is none");
        dueFault("law 0;|!", 1);
        dueFault("|\u0000law 0;", 1);
        dueFault("law |\u00b9;", 1);
    }

    private static void inPlaceOfTheOneBefore() {
        Due.sentence("Terms, TEXTS", "A MARKET that is read stands in place of the one before (none at first): DAY 0;");
        HeapEnds x = Twins.shop();
        x.market();
        Due.due("count(4)", x.count(4), 1);
        Due.readInto(x, "law 1;buyer 3 7;ware berry 5 1;ware melon 6 2;");
        Due.due("count(4)", x.count(4), 0);
        Due.due("count(1)", x.count(1), 1);
        Due.due("count(2)", x.count(2), 2);
        Due.sentence("Terms, TEXTS", "all WARES lie in THE HEAP, a row, in their order from the left");
        Due.due("count(3)", x.count(3), 2);
        Due.due("ware(0, 3)", x.ware(0, 3), 0);
        Due.due("ware(1, 3)", x.ware(1, 3), 1);
        Due.due("ware(0, 1)", x.ware(0, 1), 1);
        Due.sentence("Terms, TEXTS", "nothing is taken, no ACT can be undone");
        Due.due("ware(0, 4)", x.ware(0, 4), Due.NONE);
        Due.due("buyer(0, 1)", x.buyer(0, 1), 7);
        Due.due("buyer(0, 2)", x.buyer(0, 2), 0);
        Due.due("buyer(0, 3)", x.buyer(0, 3), 0);
        Due.due("count(5)", x.count(5), 0);
        Due.due("undo()", x.undo(), Due.STATE);
        Due.readInto(x, "law 0;");
        Due.due("of nothing at all: count(1)", x.count(1), 0);
        Due.due("count(2)", x.count(2), 0);
        Due.due("count(3)", x.count(3), 0);
        Due.due("it is a MARKET: day()", x.day(), 0);
    }

    private static void imagesAndRowsStay() {
        Due.sentence("Terms, TEXTS", "IMAGES and ROWS stay");
        HeapEnds x = Twins.shop();
        x.market();
        Due.readInto(x, "law 1;");
        Due.due("count(0)", x.count(0), 3);
        Due.due("set(0, 2, 3)", x.set(0, 2, 3), 3);
        Due.due("restore(0)", x.restore(0), Due.STATE);
        Due.due("restore(1)", x.restore(1), 1);
        Due.due("count(2)", x.count(2), 4);
        Due.sentence("Promise 31, ask (no market() empties it)", "THE TRACE is empty ahead of it.");
        Due.due("trace(0)", x.trace(0), 23);
    }

    private static void firstToken() {
        Due.sentence("Terms, FAULTS", "the first TOKEN that has one (its first byte)");
        dueFault("law |2;buyer 9 999;", 2);
        dueFault("law |x;buyer 9 999;", 1);
        dueFault("law 0;buyer |9 999;", 2);
        dueFault("law 0;buyer |9 9999;", 2);
        dueFault("law 0;ware |plum 99 99;", 1);
        dueFault("law 0;ware silk |99 99;", 2);
        dueFault("law 0;ware silk |9999 99;", 1);
        dueFault("law 0;" + BUYER.repeat(4) + "|buyer x;", 3);
        dueFault("law 0;" + WARE.repeat(9) + "ware silk |31 0;ware", 2);
        dueFault("law \n |200;", 2);
        dueFault("  |laws 0;", 1);
    }

    private static void leastOfOneToken() {
        Due.sentence("Terms, FAULTS", "of one TOKEN the least");
        dueFault("law 0;buyer 0 0 |999;", 1);
        dueFault("law 0;|300", 1);
        dueFault("law |2222;", 1);
        dueFault("law 0;buyer 0 |2222;", 1);
        dueFault("law 0;" + BUYER.repeat(4) + WARE + "|buyer 0 0;", 1);
        dueFault("law 0;" + BUYER.repeat(3) + "buyer |buyer 0 0;", 1);
        dueFault("law 0;" + WARE.repeat(9) + "ware silk 1 1 |ware", 1);
    }

    private static void notAsTold() {
        Due.sentence("Terms, FAULTS", "2 a NUMBER that is not as told");
        String[] places = {"law |#;", "law 0;buyer |# 0;", "law 0;buyer 0 |#;", "law 0;ware silk |# 0;", "law 0;ware silk 0 |#;"};
        int[] most = {1, 5, 200, 30, 9};
        for (int i = 0; i < places.length; i++) {
            for (int number = 0; number < 1000; number++) {
                if (number > most[i]) {
                    dueFault(places[i].replace("#", Integer.toString(number)), 2);
                } else {
                    dueWares(places[i].replace("#", Integer.toString(number)).replace("|", ""), i < 3 ? 0 : 1);
                }
            }
        }
    }

    private static void runsOfFigures() {
        Due.sentence("Terms, FAULTS", "a run of four figures or more, at its first");
        dueFault("law |0000;", 1);
        dueFault("law |0001;", 1);
        dueFault("law |" + "0".repeat(390) + ";", 1);
        dueFault("law 0;buyer 0 |0100;", 1);
        dueFault("law 0;ware silk 1 |0001;", 1);
        dueFault("law 0;|1234", 1);
        dueFault("law |4294967296;", 1);
        dueWares("law 000;", 0);
    }

    private static void theEnd() {
        Due.sentence("Terms, FAULTS", "the end: how many bytes there are");
        String[] begun = {"", "law", "law 0", "law 0;buyer", "law 0;buyer 0", "law 0;buyer 0 0", "law 0;ware", "law 0;ware silk",
            "law 0;ware silk 1", "law 0;ware silk 1 1"};
        for (String text : begun) {
            dueFault(text + "|", 1);
            dueFault(text + " |", 1);
            dueFault(text + " \n \n|", 1);
        }
        dueFault(" ".repeat(400) + "|", 1);
        dueFault("law 0" + " ".repeat(395) + "|", 1);
    }

    private static void emptyThen() {
        Due.sentence("Promise 7, market", "The tape, empty then, is read");
        HeapEnds x = new HeapEnds();
        Due.feed(x, "law 0;" + WARE);
        Due.due("market()", x.market(), 1);
        Due.due("count(6)", x.count(6), 0);
        Due.due("an empty tape: market()", x.market(), -1000100);
        Due.due("fault()", x.fault(), 1);
        Due.due("the MARKET stays: count(2)", x.count(2), 1);
        Due.due("room for all again", x.feed(0, 8), 8);
        x.market();
        for (int i = 1; i <= 50; i++) {
            Due.due("feed(0, 8)", x.feed(0, 8), 8 * i);
        }
        x.market();
        Due.due("from the first on: feed('l')", x.feed('l', 1), 1);
    }

    /** The second text ends where the first, that was read before, goes on. */
    private static void dueAlone(String before, String text, int due) {
        HeapEnds x = new HeapEnds();
        Due.feed(x, before);
        x.market();
        Due.feed(x, text);
        Due.due("market() of '" + text + "' behind '" + before + "'", x.market(), due);
    }

    private static void nothingOfTheOneBefore() {
        Due.sentence("Promise 7, market (nothing of a text before)", "The tape, empty then, is read");
        dueAlone("law 0111;", "law 0", -1000105);
        dueAlone("law 0111;", "law 01", -1000106);
        dueAlone("law 0;", "law 0", -1000105);
        dueAlone("law 0;", "law", -1000103);
        dueAlone("lawlawlaw", "law", -1000103);
        dueAlone("law       ", "law ", -1000104);
        dueAlone("law 0;law 0;", "law 0;", 0);
        dueAlone("law 0;" + BUYER + WARE, "law 0;", 0);
        dueAlone("law 0;" + WARE + WARE, "law 0;" + WARE, 1);
        dueAlone("law 0;" + WARE, "", -1000100);
        dueAlone("law 0;".repeat(60), "law 0;buyer 0 1", -1000115);
        dueAlone("1".repeat(400), "law 1;buyer 5 20", -1000116);
        dueAlone("1".repeat(400), " ".repeat(395) + "law 1", -1000500);
    }

    private static void howManyWares() {
        Due.sentence("Promise 7, market", "how many WARES there are");
        for (int n = 0; n <= 10; n++) {
            dueWares("law 1;" + BUYER + WARE.repeat(n), n);
        }
    }

    private static void faultPlaces() {
        Due.sentence("Promise 7, market", "-1000100 less the place of a FAULT");
        dueFault("|;", 1);
        dueFault(" |;", 1);
        dueFault(" ".repeat(399) + "|x", 1);
        dueFault(" ".repeat(400) + "|", 1);
        dueFault(" ".repeat(394) + "law |2;", 2);
    }

    private static HeapEnds fedShop(String text) {
        HeapEnds x = Twins.shop();
        x.market();
        Due.feed(x, text);
        return x;
    }

    private static void allStays() {
        Due.sentence("Promise 7, market", "all stays, but the tape is empty then");
        String[] texts = {"", "law 9;", "law 1;buyer 0 0;buyer 0 0;ware silk 9 9;ware silk 9 99;",
            "law 1;" + BUYER.repeat(5), "law 1;" + WARE.repeat(11), "law 1;ware silk 9 9"};
        for (String text : texts) {
            HeapEnds one = fedShop(text);
            Due.due("market() of '" + text + "' has a FAULT", one.market() <= -1000100 ? 1 : 0, 1);
            Due.due("count(6)", one.count(6), 0);
            Due.due("status()", one.status(), 2);
            Due.due("another FAULT", one.market(), -1000100);
            HeapEnds other = fedShop("");
            other.market();
            Twins.dueAlike("market() of '" + text + "'", one, other);
        }
    }

    private static void faultTellsThisOne() {
        Due.sentence("Promise 7, market", "and fault() tells this one");
        HeapEnds x = new HeapEnds();
        Due.feed(x, "law 2;");
        Due.due("market()", x.market(), -1000104);
        Due.due("fault()", x.fault(), 2);
        Due.feed(x, "law 0;" + WARE.repeat(11));
        Due.due("ahead of market(): fault()", x.fault(), 2);
        Due.due("market()", x.market(), -1000246);
        Due.due("fault()", x.fault(), 3);
        Due.due("market()", x.market(), -1000100);
        Due.due("fault()", x.fault(), 1);
    }

    private static void latestFault() {
        Due.sentence("Promise 8, fault", "The number of the latest FAULT; 0 before one.");
        HeapEnds x = new HeapEnds();
        Due.due("fault() at first", x.fault(), 0);
        Due.readInto(x, "law 0;");
        Due.due("fault() behind a text without one", x.fault(), 0);
        int[] faults = {2, 1, 3, 2, 3, 1};
        String[] texts = {"", "law", "law 2;", "law 0;" + BUYER.repeat(5)};
        for (int fault : faults) {
            Due.feed(x, texts[fault]);
            x.market();
            Due.due("fault()", x.fault(), fault);
            Due.feed(x, "law 1;");
            Due.due("fault() ahead of market()", x.fault(), fault);
            Due.due("market()", x.market(), 0);
            Due.due("fault() behind a text without one", x.fault(), fault);
        }
    }
}
