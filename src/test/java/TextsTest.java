/** Promises 6 to 8. */
public final class TextsTest {
    private static final String BUYER = "buyer 0 9;";
    private static final String WARE = "ware silk 1 1;";

    public static void main(String[] args) {
        feed();
        read();
        faultsOfTheLaw();
        faultsOfBuyers();
        faultsOfWares();
        whatStays();
        Due.end("TextsTest");
    }

    private static void feed() {
        HeapEnds x = new HeapEnds();
        Due.due("n 0", x.feed(0, 0), Due.BAD);
        Due.due("n -1", x.feed(0, -1), Due.BAD);
        Due.due("n 9", x.feed(0, 9), Due.BAD);
        Due.due("n most", x.feed(0, Integer.MAX_VALUE), Due.BAD);
        Due.due("four", x.feed(0x7f7f7f7f6c617720L, 4), 4);
        Due.due("two", x.feed(0xffffffffffff313bL, 2), 6);
        Due.due("the highest first", x.market(), 0);
        Due.due("empty then", x.count(6), 0);
        for (int i = 1; i <= 49; i++) {
            Due.due("eight", x.feed(0, 8), 8 * i);
        }
        Due.due("one more than there is room for", x.feed(0, 8) == 400 ? x.feed(0, 1) : 0, Due.FULL);
        Due.due("none came", x.count(6), 400);
        Due.due("bad ahead of full", x.feed(0, 9), Due.BAD);
        Due.due("it is read", x.market(), -1000100);
        for (int i = 0; i < 49; i++) {
            x.feed(0x2020202020202020L, 8);
        }
        Due.due("seven", x.feed(0x20202020202020L, 7), 399);
        Due.due("two more do not fit", x.feed(0x2020, 2), Due.FULL);
        Due.due("none of them came", x.count(6), 399);
        Due.due("one does", x.feed(0x20, 1), 400);
        Due.due("blanks alone", x.market(), -1000500);
    }

    private static void dueWares(String text, int wares) {
        HeapEnds x = new HeapEnds();
        Due.feed(x, text);
        Due.due("market() of " + text, x.market(), wares);
        Due.due("wares of " + text, x.count(2), wares);
        Due.due("lying of " + text, x.count(3), wares);
        Due.due("fault of " + text, x.fault(), 0);
        Due.due("the tape behind " + text, x.count(6), 0);
    }

    private static void dueFault(String text, int place, int fault) {
        HeapEnds x = new HeapEnds();
        Due.feed(x, text);
        Due.due("market() of " + text, x.market(), -1000100 - place);
        Due.due("fault() of " + text, x.fault(), fault);
        Due.due("the tape behind " + text, x.count(6), 0);
        Due.due("no market of " + text, x.day(), Due.STATE);
    }

    private static void read() {
        dueWares("law 0;", 0);
        dueWares("law1;", 0);
        dueWares(" \n law \n 001 \n ; \n", 0);
        dueWares("law 0;" + BUYER.repeat(4) + WARE.repeat(10), 10);
        dueWares("law 0;buyer5 200;ware fruit30 9;ware melon 0 0 ;ware berry 030 009;ware cloth 1 1;ware\nsilk 1 1;", 5);
        HeapEnds x = Due.read("law 0;buyer 5 200;buyer 0 0;ware fruit 30 9;ware melon 1 2;ware berry 3 4;ware cloth 5 6;ware silk 7 8;");
        Due.due("buyers", x.count(1), 2);
        Due.due("taste", x.buyer(0, 0), 5);
        Due.due("purse", x.buyer(0, 1), 200);
        Due.due("second taste", x.buyer(1, 0), 0);
        for (int ware = 0; ware < 5; ware++) {
            Due.due("kind " + ware, x.kind(ware), ware + 1);
            Due.due("worth " + ware, x.ware(ware, 0), ware == 0 ? 30 : 2 * ware - 1);
            Due.due("age " + ware, x.ware(ware, 1), ware == 0 ? 9 : 2 * ware);
            Due.due("place " + ware, x.ware(ware, 3), ware);
            Due.due("taker " + ware, x.ware(ware, 4), Due.NONE);
        }
    }

    private static void faultsOfTheLaw() {
        dueFault("", 0, 1);
        dueFault(" \n ", 3, 1);
        dueFault("law", 3, 1);
        dueFault("law ", 4, 1);
        dueFault("law 0", 5, 1);
        dueFault("law 0 \n", 7, 1);
        dueFault("law 2;", 4, 2);
        dueFault("law 999;", 4, 2);
        dueFault("law 0000;", 4, 1);
        dueFault("law 00000000000;", 4, 1);
        dueFault("law x;", 4, 1);
        dueFault("law ;", 4, 1);
        dueFault("law 0 0;", 6, 1);
        dueFault("lawn 0;", 0, 1);
        dueFault("la 0;", 0, 1);
        dueFault("saw 0;", 0, 1);
        dueFault("law 0;lawz", 6, 1);
        dueFault("lawz 0;", 0, 1);
        dueFault("alaw 0;", 0, 1);
        dueFault(" Law 0;", 1, 1);
        dueFault("laW 0;", 0, 1);
        dueFault("law\t0;", 3, 1);
        dueFault("law 0:", 5, 1);
        dueFault("law 0;;", 6, 1);
        dueFault("law 0; law 0;", 7, 1);
        dueFault("law 0;\u0000", 6, 1);
        dueFault("law 0;\u00ff", 6, 1);
        dueFault("law 0;{", 6, 1);
        dueFault("law 0;`", 6, 1);
        dueFault("law /;", 4, 1);
        dueFault("law :;", 4, 1);
        dueFault("buyer 0 0;", 0, 1);
        dueFault("ware silk 1 1;", 0, 1);
        dueFault("7law 0;", 0, 1);
        dueFault("1234", 0, 1);
        dueFault(";law 0;", 0, 1);
    }

    private static void faultsOfBuyers() {
        dueFault("law 0;buyer", 11, 1);
        dueFault("law 0;buyer ;", 12, 1);
        dueFault("law 0;buyer 6 0;", 12, 2);
        dueFault("law 0;buyer 5", 13, 1);
        dueFault("law 0;buyer 5;", 13, 1);
        dueFault("law 0;buyer 5 201;", 14, 2);
        dueFault("law 0;buyer 5 2000;", 14, 1);
        dueFault("law 0;buyer 6 2000;", 12, 2);
        dueFault("law 0;buyer 5 x;", 14, 1);
        dueFault("law 0;buyer silk 1;", 12, 1);
        dueFault("law 0;buyer 5 200", 17, 1);
        dueFault("law 0;buyer 5 200 1;", 18, 1);
        dueFault("law 0;buyers 5 200;", 6, 1);
        dueFault("law 0;cuyer 5 200;", 6, 1);
        dueFault("law 0;" + BUYER.repeat(4) + " buyer 9 999;", 47, 3);
        dueFault("law 0;" + BUYER.repeat(4) + "buyer", 46, 3);
        dueFault("law 0;" + BUYER.repeat(3) + WARE + BUYER, 50, 1);
        dueFault("law 0;" + BUYER.repeat(4) + WARE + BUYER, 60, 1);
        dueFault("law 0;" + WARE + BUYER, 20, 1);
    }

    private static void faultsOfWares() {
        dueFault("law 0;ware", 10, 1);
        dueFault("law 0;ware plum 1 1;", 11, 1);
        dueFault("law 0;ware ware 1 1;", 11, 1);
        dueFault("law 0;ware fruits 1 1;", 11, 1);
        dueFault("law 0;ware frui 1 1;", 11, 1);
        dueFault("law 0;ware 1 1 1;", 11, 1);
        dueFault("law 0;ware fruit 31 0;", 17, 2);
        dueFault("law 0;ware fruit 30 10;", 20, 2);
        dueFault("law 0;ware fruit 0030 10;", 17, 1);
        dueFault("law 0;ware fruit 30 0009;", 20, 1);
        dueFault("law 0;ware fruit 30;", 19, 1);
        dueFault("law 0;ware fruit 30 9", 21, 1);
        dueFault("law 0;ware fruit 30 9 9;", 22, 1);
        dueFault("law 0;ware fruit ; 9;", 17, 1);
        dueFault("law 0;wares fruit 3 9;", 6, 1);
        dueFault("law 0;mare fruit 3 9;", 6, 1);
        dueFault("law 0;ware milk 3 9;", 11, 1);
        dueFault("law 0;" + WARE.repeat(10) + "ware plum 99 99;", 146, 3);
        dueFault("law 0;" + WARE.repeat(10) + "\nware", 147, 3);
        dueFault("law 0;" + WARE.repeat(10) + "law", 146, 1);
    }

    private static void whatStays() {
        HeapEnds x = Due.read("law 0;buyer 0 50;ware silk 5 0;ware cloth 5 0;");
        Due.tell(x, 0, 1, 2);
        x.take(0, 0);
        x.day();
        x.image(1);
        x.ask(1, 0);
        Due.feed(x, "law 3;");
        Due.due("a fault", x.market(), -1000104);
        Due.due("acts stay", x.count(5), 2);
        Due.due("the day stays", x.count(4), 1);
        Due.due("buyers stay", x.buyer(0, 1), 45);
        Due.due("wares stay", x.ware(0, 4), 0);
        Due.feed(x, "law 1;ware silk 5 0;buyer 0 0;");
        Due.due("a fault at the end", x.market(), -1000120);
        Due.due("its number", x.fault(), 1);
        Due.due("no ware of it came", x.count(2), 2);
        Due.feed(x, "law 1;");
        Due.due("an empty market", x.market(), 0);
        Due.due("the fault before is still the latest", x.fault(), 1);
        Due.due("no buyer", x.count(1), 0);
        Due.due("no ware", x.count(2), 0);
        Due.due("none lies", x.count(3), 0);
        Due.due("day 0", x.count(4), 0);
        Due.due("no act", x.undo(), Due.STATE);
        Due.due("rows stay", x.count(0), 1);
        Due.due("the trace stays", x.trace(0), 13);
        Due.due("a day of it", x.day(), 0);
        Due.due("images stay", x.restore(1), 1);
        Due.due("as they were", x.count(2), 2);
        Due.due("the buyer, too", x.buyer(0, 3), 1);
        Due.readInto(x, "law 1;buyer 3 7;ware silk 9 9;");
        Due.due("a new buyer gained nothing", x.buyer(0, 2), 0);
        Due.due("a new buyer took nothing", x.buyer(0, 3), 0);
        Due.due("a new ware is not taken", x.ware(0, 4), Due.NONE);
    }
}
