/** Promises 24 to 28: the book, judging, the image. */
public final class BooksTest {
    private static final Due due = new Due();

    public static void main(String[] args) {
        book();
        looked();
        lookedBehindTheLot();
        lookedByLeft();
        judge();
        image();
        cameSince();
        due.end("BooksTest");
    }

    private static void book() {
        ByLot x = new ByLot();
        due.is("m 3", x.book(3), -2);
        due.is("m -2", x.book(-2), -2);
        for (int n = 1; n <= 12; n++) {
            due.is("year " + n, x.book(n % 3), n);
        }
        due.is("the thirteenth", x.book(0), -4);
        due.is("BAD ahead of FULL", x.book(3), -2);
        due.is("count", x.count(6), 12);
        due.is("empty", x.book(-1), 0);
        due.is("count", x.count(6), 0);
    }

    private static void looked() {
        ByLot x = new ByLot();
        x.holder(6, 0);
        x.holder(0, 0);
        x.holding(3);
        x.holding(8);
        due.is("no holder", x.looked(2, 0), -1);
        due.is("no holding", x.looked(0, 2), -1);
        due.is("nothing in the book", x.looked(0, 0), -5);
        x.row(0, 9, 2);
        x.row(0, 8, 1);
        x.book(2);
        x.book(1);
        x.book(0);
        due.is("all as told", x.looked(0, 0), -5);
        due.is("whoever has it; 9 at most", x.looked(0, 1), 0);
        due.is("HOLDER mends nothing", x.looked(1, 1), 0);
        x.book(1);
        due.is("the fourth year", x.looked(0, 0), 3);
        x.set(1, 8);
        due.is("from now on", x.looked(0, 0), 0);
    }

    private static void lookedBehindTheLot() {
        ByLot x = new ByLot();
        x.holder(2, 9);
        x.holding(0);
        x.holding(2);
        x.lot(1);
        x.lot(0);
        x.set(0, 2);
        Lands.valley(x, "cost 6 s<99;pay 3");
        for (int n = 0; n < 2; n++) {
            x.book(0);
        }
        x.book(1);
        x.book(0);
        due.is("pay came, so that it mends once", x.looked(0, 1), -5);
        due.is("0 times 3 pays nothing", x.looked(0, 0), 2);
        x.book(0);
        due.is("behind the next lot it mends again", x.looked(0, 1), 4);
    }

    private static void lookedByLeft() {
        ByLot x = new ByLot();
        x.holder(2, 9);
        x.holding(0);
        x.set(0, 3);
        // The PURSE: 4, 4, 5 (by LEFT 3 and 1), then a step of 5, and so on; STATE falls with LEFT 2 alone.
        Lands.valley(x, "bring 4 l=3;bring 1 l=1;cost 5 s<99;fall 9 l=2;pay 9");
        int[] book = {0, 0, 0, 1, 0, 0, 1, 0, 0};
        for (int n = 0; n < book.length; n++) {
            due.is("the book so far, " + n + " years", x.looked(0, 0), -5);
            x.book(book[n]);
        }
        x.go(9);
        due.is("as years went", x.has(0, 3), 5);
    }

    private static void judge() {
        ByLot x = new ByLot();
        due.is("none to look at", x.judge(0, -1, 0), -5);
        x.holding(3);
        x.holding(4);
        due.is("no tape", x.judge(6, 0, 0), -1);
        due.is("no tape", x.judge(-1, 0, 37), -1);
        due.is("n 37", x.judge(0, 0, 37), -2);
        due.is("n -1", x.judge(0, 0, -1), -2);
        due.is("it holds nothing", x.judge(0, 0, 0), 100);
        x.tape(0, 1, 6);
        due.is("no bytes", x.judge(0, 0, 0), -12);
        due.is("BAD ahead of CAST", x.judge(0, 0, 37), -2);
        x.tape(0, 0, 4);
        x.item(0, 1, 3 + 256);
        x.item(0, 2, 4);
        x.item(0, 3, 3);
        due.is("as told", x.judge(0, 1, 0), -5);
        due.is("the first", x.judge(0, 0, 0), 0);
        due.is("the second", x.judge(0, 2, 0), 0);
        due.is("it ends", x.judge(0, 3, 0), 101);
        due.is("it ended", x.judge(0, 4, 0), 100);
        due.is("below 0", x.judge(0, -1, 0), 100);
        due.is("far beyond", x.judge(0, Integer.MAX_VALUE, 0), 100);
        due.is("far below", x.judge(0, Integer.MIN_VALUE, 0), 100);
        Lands.valley(x, "fall 1 i=1");
        due.is("behind a year", x.judge(0, 1, 1), 1);
        x.item(0, 2, 0);
        due.is("behind 36", x.judge(0, 1, 36), -5);
        due.is("years did not go", x.of(1, 0), 4);
    }

    private static void image() {
        ByLot x = new ByLot();
        due.is("none", x.undo(), -3);
        for (int n = 0; n < 2; n++) {
            x.holding(9);
            x.holder(0, 0);
        }
        Lands.valley(x, "fall 1 s<99;bring 5 s>4");
        x.lot(1);
        x.book(2);
        x.set(0, 5);
        x.go(2);
        due.is("taken", x.image(), 2);
        x.lot(0);
        x.book(-1);
        x.set(0, 3);
        Lands.valley(x, "bring 9 s<99");
        x.go(9);
        due.is("undone", x.undo(), 2);
        due.is("states", x.of(0, 0), 7);
        due.is("purse", x.has(0, 3), 10);
        due.is("holding", x.has(0, 2), 0);
        due.is("left", x.count(4), 3);
        due.is("round", x.set(0, 5), 5);
        due.is("lot", x.count(5), 1);
        due.is("what the lot tells", x.lot(1), -3);
        due.is("book", x.count(6), 1);
        due.is("which valley holds", x.told(9, 1, 0, 0, 1), 5);
        due.is("valleys stay", x.count(2), 2);
        due.is("the next valley", Lands.valley(x, "pay 1"), 2);
        due.is("undone again", x.undo(), 2);
        due.is("the first valley again", x.told(9, 1, 0, 0, 3), 0);
        x.go(1);
        due.is("another image", x.image(), 3);
        x.go(4);
        due.is("undone", x.undo(), 3);
    }

    private static void cameSince() {
        ByLot x = new ByLot();
        x.holder(0, 0);
        x.image();
        Lands.valley(x, "bring 9 s<99");
        x.holding(9);
        x.holding(8);
        x.holder(6, 3);
        x.row(1, 9, 2);
        x.tape(0, 0, 6);
        Lands.feed(x, "pay");
        x.act(0, 0, 1);
        x.go(1);
        due.is("undone", x.undo(), 0);
        due.is("holdings stay", x.count(0), 2);
        due.is("with STATE 0", x.of(0, 0), 0);
        due.is("nobody's", x.of(0, 1), -5);
        due.is("nobody's", x.of(1, 1), -5);
        due.is("holders stay", x.count(1), 2);
        due.is("without a holding", x.has(1, 2), -5);
        due.is("their purse", x.has(1, 3), 0);
        due.is("their kind", x.has(1, 0), 6);
        due.is("their row", x.row(1, 9, 2), 2);
        due.is("no valley holds", x.told(0, 1, 0, 0, 1), 0);
        due.is("tapes stay", x.read(0, 5), 0);
        due.is("the text stays", x.count(7), 3);
        due.is("the trace stays", x.count(8), 1);
    }
}
