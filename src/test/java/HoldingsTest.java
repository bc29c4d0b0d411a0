/** Promises 1 to 7: a new object, holdings, what is set, THE TEXT, valleys. */
public final class HoldingsTest {
    private static final Due due = new Due();

    public static void main(String[] args) {
        newObject();
        holdings();
        of();
        set();
        feed();
        valleys();
        faults();
        told();
        newestHolds();
        nothingStaysOfFaults();
        due.end("HoldingsTest");
    }

    private static void newObject() {
        ByLot x = new ByLot();
        int[] counts = {0, 0, 0, 0, 9, 0, 0, 0, 0};
        for (int what = 0; what < counts.length; what++) {
            due.is("new count(" + what + ")", x.count(what), counts[what]);
        }
        due.is("new set(0, 9)", x.set(0, 9), 9);
        due.is("new of(0, 0)", x.of(0, 0), -1);
        due.is("new has(0, 0)", x.has(0, 0), -100001);
        due.is("new told", x.told(9, 18, 5, 5, 0), 0);
        due.is("new undo", x.undo(), -3);
        due.is("new trace", x.trace(0), -1);
        due.is("new read", x.read(0, 0), ByLot.NO);
    }

    private static void holdings() {
        ByLot x = new ByLot();
        due.is("holding(-1)", x.holding(-1), -2);
        due.is("holding(10)", x.holding(10), -2);
        x.holder(0, 0);
        x.holder(0, 0);
        due.is("holding(0)", x.holding(0), 0);
        due.is("holding(9)", x.holding(9), 1);
        due.is("a holding comes to the holder of its number", x.of(1, 1), 1);
        for (int n = 2; n < 6; n++) {
            due.is("holding(" + n + ")", x.holding(n), n);
        }
        due.is("without such a holder it is nobody's", x.of(2, 1), -5);
        due.is("the seventh", x.holding(3), -4);
        due.is("BAD ahead of FULL", x.holding(10), -2);
        due.is("still six", x.count(0), 6);
    }

    private static void of() {
        ByLot x = new ByLot();
        x.holding(7);
        due.is("of(0, 0)", x.of(0, 0), 7);
        due.is("of(0, 1)", x.of(0, 1), -5);
        x.holder(2, 3);
        due.is("of(0, 1) with a holder", x.of(0, 1), 0);
        due.is("of(1, 0)", x.of(1, 0), -1);
        due.is("of(-1, 0)", x.of(-1, 0), -1);
        due.is("of(0, 2)", x.of(0, 2), -1);
        due.is("of(0, -1)", x.of(0, -1), -1);
    }

    private static void set() {
        ByLot x = new ByLot();
        due.is("LEFT becomes 4", x.set(1, 4), 9);
        due.is("LEFT was 4", x.set(1, 9), 4);
        due.is("ROUND becomes 3", x.set(0, 3), 9);
        due.is("so does LEFT", x.count(4), 3);
        due.is("ROUND becomes 8", x.set(0, 8), 3);
        due.is("LEFT stays", x.count(4), 3);
        due.is("LEFT above ROUND", x.set(1, 9), -2);
        due.is("LEFT 0", x.set(1, 0), -2);
        due.is("ROUND 0", x.set(0, 0), -2);
        due.is("ROUND 10", x.set(0, 10), -2);
        due.is("NONE ahead of BAD", x.set(2, 0), -1);
        due.is("set(-1, 1)", x.set(-1, 1), -1);
        due.is("LEFT may be ROUND", x.set(1, 8), 3);
    }

    private static void feed() {
        ByLot x = new ByLot();
        due.is("n 5", x.feed(0, 5), -2);
        due.is("n -1", x.feed(0, -1), -2);
        due.is("n 0", x.feed(7, 0), 0);
        due.is("pay ", x.feed('p' << 24 | 'a' << 16 | 'y' << 8 | ' ', 4), 4);
        due.is("17", x.feed(0x7f << 16 | '1' << 8 | '7', 2), 6);
        due.is("the highest byte came first", x.valley(), 0);
        due.is("pay is 17", x.told(0, 1, 0, 0, 3), 17);
        for (int n = 1; n <= 24; n++) {
            x.feed(0, 4);
        }
        due.is("99 bytes", x.feed(0, 3), 99);
        due.is("two more are too many", x.feed(0, 2), -4);
        due.is("nothing came", x.count(7), 99);
        due.is("one is not", x.feed(0, 1), 100);
        due.is("none is not", x.feed(0, 0), 100);
        due.is("BAD ahead of FULL", x.feed(0, 5), -2);
        due.is("one is too many now", x.feed(0, 1), -4);
    }

    private static void valleys() {
        ByLot x = new ByLot();
        due.is("a fault", Lands.valley(x, "pay"), -13);
        due.is("the text is empty then", x.count(7), 0);
        for (int n = 0; n < 5; n++) {
            due.is("valley " + n, Lands.valley(x, "pay " + n), n);
        }
        Lands.feed(x, "pay 9");
        due.is("the sixth", x.valley(), -4);
        due.is("the text stays", x.count(7), 5);
        due.is("valleys", x.count(2), 5);
        due.is("the newest holds", x.told(0, 1, 0, 0, 3), 4);
    }

    private static void faults() {
        fault("", 0);
        fault("x", 0);
        fault("fall", 4);
        fault("fall  1 s=1", 5);
        fault("f1 s=1", 1);
        fault("pay1", 3);
        fault("fall ", 5);
        fault("fall 1", 6);
        fault("fall 1 ", 7);
        fault("fall 1 s", 8);
        fault("fall 1 s=", 9);
        fault("fall 1 !", 8);
        fault("fall 1 (", 8);
        fault("fall 1 (s=1&", 12);
        fault("fall 1s=1", 6);
        fault("fall 123 s=1", 7);
        fault("fall 12 s=123", 12);
        fault("fall 1 s=1 ", 10);
        fault("fall 1 s=1;", 11);
        fault("fall 1 s==1", 9);
        fault("fall 1 s1", 8);
        fault("fall 1 S=1", 7);
        fault("fall 1 ()", 8);
        fault("fall 1 (s=1", 11);
        fault("fall 1 (s=1;", 11);
        fault("fall 1 s=1)", 10);
        fault("fall 1 s=1|", 11);
        fault("fall 1 s=1||s=2", 11);
        fault("fall 1 s=1&|s=2", 11);
        fault("fall 1 !!!!!s=1", 11);
        fault("fall 1 !(!(!s=1))", 11);
        fault("fall 1 ((((s=1&(s=2)))))", 15);
        fault("pay 1 s=1", 5);
        fault("pay -1", 4);
        fault("keep 100", 7);
        fault("Pay 1", 0);
        fault("pay 1;;pay 1", 6);
        fault("bring 1 s=1;cosy 1 s=1", 15);
        fault("pay 1;pay 2;pay 3;pay 4;pay 5;pay 6;pay 7;pay 8;pay 9;pay 1;pay 2", 59);
        fault("pay 1;pay 2;pay 3;pay 4;pay 5;pay 6;pay 7;pay 8;pay 9;pay 1;", 59);
        stands("pay 1;pay 2;pay 3;pay 4;pay 5;pay 6;pay 7;pay 8;pay 9;pay 1");
        stands("fall 0 !!!!s=0");
        stands("fall 99 ((((s<99))))&((((l>00))))|!(!(p=1|i=2))");
        stands("keep 07");
        ByLot x = new ByLot();
        x.feed(0xff, 1);
        due.is("a byte of 255", x.valley(), -10);
        x.feed(0, 1);
        due.is("a byte of 0", x.valley(), -10);
        Lands.feed(x, "pay 1");
        x.feed(0, 1);
        due.is("a byte of 0 behind", x.valley(), -15);
    }

    private static void fault(String bytes, int place) {
        ByLot x = new ByLot();
        Lands.valley(x, "keep 5");
        due.is("FAULT of '" + bytes + "'", Lands.valley(x, bytes), -10 - place);
        due.is("the one that held holds", x.told(0, 1, 0, 0, 4), 5);
        due.is("one valley", x.count(2), 1);
    }

    private static void stands(String bytes) {
        due.is("'" + bytes + "'", Lands.valley(new ByLot(), bytes), 0);
    }

    private static void told() {
        ByLot x = new ByLot();
        Lands.valley(x, "fall 6 s>3;fall 5 l<5;bring 99 s=2|s=4&i=1;cost 7 !p=3;cost 3 (s=1|s=2)&l>9;pay 3;pay 8;keep 2");
        due.is("FALL 5", x.told(3, 4, 0, 0, 0), 5);
        due.is("FALL 6", x.told(4, 5, 0, 0, 0), 6);
        due.is("FALL 9 at most", x.told(4, 4, 0, 0, 0), 9);
        due.is("FALL 0", x.told(3, 5, 0, 0, 0), 0);
        due.is("& ahead of |: s=2", x.told(2, 1, 0, 0, 1), 99);
        due.is("& ahead of |: s=4", x.told(4, 1, 0, 0, 1), 0);
        due.is("& ahead of |: s=4&i=1", x.told(4, 1, 1, 0, 1), 99);
        due.is("cost of 3", x.told(5, 1, 0, 3, 2), 0);
        due.is("cost of 2", x.told(5, 1, 0, 2, 2), 7);
        due.is("of number 5 in number 5", x.told(4, 5, 5, 5, 2), 7);
        due.is("costs together", x.told(1, 18, 0, 2, 2), 10);
        due.is("l>9 is not 9", x.told(1, 9, 0, 2, 2), 7);
        due.is("the last pay", x.told(0, 1, 0, 0, 3), 8);
        due.is("keep", x.told(0, 1, 5, 5, 4), 2);
        due.is("holding 6", x.told(0, 1, 6, 0, 0), -1);
        due.is("holding -1", x.told(0, 1, -1, 0, 0), -1);
        due.is("holder 6", x.told(0, 1, 0, 6, 0), -1);
        due.is("what 5", x.told(0, 1, 0, 0, 5), -1);
        due.is("what -1", x.told(0, 1, 0, 0, -1), -1);
        due.is("state 10", x.told(10, 1, 0, 0, 0), -2);
        due.is("state -1", x.told(-1, 1, 0, 0, 0), -2);
        due.is("left 19", x.told(0, 19, 0, 0, 3), -2);
        due.is("left 0", x.told(0, 0, 0, 0, 3), -2);
        due.is("NONE ahead of BAD", x.told(10, 0, 0, 0, 5), -1);
    }

    private static void nothingStaysOfFaults() {
        ByLot x = new ByLot();
        due.is("a fault at the end", Lands.valley(x, "bring 5 s<9|s=9;fall 3 s<99;pay 7;keep 3;x"), -10 - 41);
        due.is("the next", Lands.valley(x, "cost 1 s<9"), 0);
        int[] want = {0, 0, 1, 0, 0};
        for (int what = 0; what < want.length; what++) {
            due.is("told " + what, x.told(0, 1, 0, 0, what), want[what]);
        }
        due.is("cost of 9", x.told(9, 1, 0, 0, 2), 0);
    }

    private static void newestHolds() {
        ByLot x = new ByLot();
        Lands.valley(x, "bring 3 p=5&i=5&l=18;bring 4 p>5|i>5|l>18");
        due.is("number 5, left 18", x.told(0, 18, 5, 5, 1), 3);
        Lands.valley(x, "bring 3 s<99;pay 4;keep 6");
        due.is("the first brings", x.told(0, 1, 0, 0, 1), 3);
        Lands.valley(x, "cost 2 s<99");
        due.is("the second brings nothing", x.told(0, 1, 0, 0, 1), 0);
        due.is("the second costs", x.told(0, 1, 0, 0, 2), 2);
        due.is("without pay", x.told(0, 1, 0, 0, 3), 0);
        due.is("without keep", x.told(0, 1, 0, 0, 4), 0);
    }
}
