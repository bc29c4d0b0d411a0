/** Edges of the BOOK, of JUDGING, of THE IMAGE. */
final class BookEdges {
    private static final int MOST = Integer.MAX_VALUE, LEAST = Integer.MIN_VALUE;
    private final Edge edge;

    BookEdges(Edge edge) {
        this.edge = edge;
    }

    void all() {
        aBook();
        lookedAt();
        goneSo();
        none();
        book();
        looked();
        judged();
        judgedToTheEnd();
        judge();
        theImage();
        cameSince();
        image();
        undo();
    }

    /** A TOLD one that has HOLDING 0, with what it MENDS by LEFT 9, 8 .. */
    private static ByLot told(ByLot x, int... steps) {
        x.holder(6, 0);
        for (int n = 0; n < steps.length; n++) {
            x.row(0, 9 - n, steps[n]);
        }
        return x;
    }

    private void aBook() {
        edge.says("Terms 3", "A BOOK: a row told by hand: what was MENDED in years from now on by one HOLDER (12 at most):");
        ByLot x = told(Lands.of("fall 1 s<99", 3), 1, 2, 0, 1, 2, 0, 1, 2, 0);
        Lands.books(x, 1, 2, 0, 1, 2, 0, 1, 2, 0, 1, 2, 0);
        edge.is("twelve", x.count(6), 12);
        edge.is("as it would", x.looked(0, 0), -5);
        edge.is("a thirteenth", x.book(1), -4);
        x.go(1);
        edge.is("from now on", x.looked(0, 0), 0);
        x.book(-1);
        Lands.books(x, 2, 0, 1);
        edge.is("from now on", x.looked(0, 0), -5);
        edge.says("Terms 3", "LOOKED at for a HOLDER and a HOLDING (whoever has it):");
        x = told(Lands.of("", 0, 0, 0), 1);
        Lands.with(x, 0, 0);
        x.book(1);
        edge.is("its own", x.looked(0, 0), -5);
        edge.is("another's", x.looked(0, 1), -5);
        edge.is("nobody's", x.looked(0, 2), -5);
        edge.is("for another", x.looked(1, 0), 0);
        x.holder(0, 0);
        x.holder(1, 0);
        x.book(-1);
        x.book(0);
        edge.is("for one that has none", x.looked(3, 0), -5);
    }

    private void lookedAt() {
        edge.says("Terms 3", "the first year (from 0 on) in which it would MEND otherwise,");
        int[] as = {1, 2, 0, 1, 2, 0, 1, 2, 0, 1, 2, 0};
        for (int year = 0; year < 12; year++) {
            ByLot x = told(Lands.of("fall 1 s<99", 3), 1, 2, 0, 1, 2, 0, 1, 2, 0);
            for (int y = 0; y < 12; y++) {
                x.book(y >= year ? (as[y] + 1) % 3 : as[y]);
            }
            edge.is("from year " + year + " on", x.looked(0, 0), year);
        }
        ByLot x = told(Lands.of("", 7, 8, 9), 2, 2, 2);
        Lands.books(x, 2, 0, 0);
        edge.is("fewer, if it would be above", x.looked(0, 0), -5);
        edge.is("from 8", x.looked(0, 1), 0);
        x.book(-1);
        Lands.books(x, 1, 0);
        edge.is("from 8", x.looked(0, 1), -5);
        edge.is("from 9", x.looked(0, 2), 0);
    }

    private void goneSo() {
        edge.says("Terms 3", "if it had that HOLDING, and all years ahead had gone so (GAINS, pay come to its PURSE;"
            + " LEFT goes on as it does, no lots are drawn);");
        ByLot x = Lands.with(Lands.of("bring 4 s<99;cost 8 s<99", 0), 2, 9);
        Lands.books(x, 0, 0, 1, 0, 1, 0, 1);
        edge.is("GAINS of 4, and a step for 8", x.looked(0, 0), -5);
        x = Lands.with(Lands.of("bring 3 i=1;cost 3 s<99", 0, 0), 2, 9);
        Lands.books(x, 0, 1, 1);
        edge.is("if it had that one", x.looked(0, 1), -5);
        edge.is("of its own", x.looked(0, 0), 1);
        x = Lands.with(Lands.of("pay 3;cost 6 s<99;fall 1 l=1", 3), 2, 9);
        x.set(0, 2);
        // Behind two years 3 times 2, behind four 3 times 2 again.
        Lands.books(x, 0, 0, 1, 0, 1, 0);
        edge.is("pay", x.looked(0, 0), -5);
        x = told(Lands.of("", 0), 0, 0, 0, 0, 0, 0, 1, 2, 0);
        x.set(0, 3);
        x.set(1, 2);
        Lands.books(x, 2, 0, 1, 2, 0, 1, 2, 0);
        edge.is("LEFT", x.looked(0, 0), -5);
        x = Lands.with(Lands.of("bring 1 i=0;cost 1 s<99", 0, 0), 2, 9, 0, 0);
        x.set(0, 1);
        Lands.lots(x, 1, 0);
        Lands.books(x, 0, 1, 1, 1);
        edge.is("no lots", x.looked(0, 0), -5);
        edge.is("no lots", x.looked(0, 1), 1);
        x.go(1);
        x.book(-1);
        x.book(1);
        edge.is("a PURSE as it is", x.looked(0, 1), -5);
        goneSoByStateAndLeft();
    }

    private void goneSoByStateAndLeft() {
        // The PURSE: 4, 4, 5, then a step of 5, and so on; STATE falls with LEFT 2 alone.
        ByLot x = Lands.with(Lands.of("bring 4 l=3;bring 1 l=1;cost 5 s<99;fall 9 l=2;pay 9", 0), 2, 9);
        x.set(0, 3);
        Lands.books(x, 0, 0, 0, 1, 0, 0, 1, 0, 0);
        edge.is("GAINS by LEFT", x.looked(0, 0), -5);
        x = Lands.with(Lands.of("fall 1 s<99;bring 6 s=3;cost 6 s=2;cost 50 s>2", 4), 2, 9);
        // 4, 3 (6), 2: a step for 6 to 3, that brings 6 again.
        Lands.books(x, 0, 0, 1, 1);
        edge.is("GAINS by STATE", x.looked(0, 0), -5);
        x = Lands.with(Lands.of("bring 7 p=1;cost 7 s<99", 0, 0), 0, 0, 2, 9);
        Lands.books(x, 0, 1, 1);
        edge.is("GAINS by HOLDER", x.looked(1, 0), -5);
        x.go(3);
        edge.is("a PURSE", x.has(1, 3), 7);
        x.book(-1);
        Lands.books(x, 1, 1, 1);
        edge.is("a PURSE as it is", x.looked(1, 0), -5);
        edge.is("another's", x.looked(0, 0), 0);
    }

    private void none() {
        edge.says("Terms 3", "no lots are drawn); -5: none.");
        ByLot x = told(Lands.of("", 0), 1);
        edge.is("no BOOK", x.looked(0, 0), -5);
        x.book(1);
        edge.is("a year", x.looked(0, 0), -5);
        x.book(0);
        edge.is("two", x.looked(0, 0), -5);
        x.book(1);
        edge.is("the third", x.looked(0, 0), 2);
    }

    private void book() {
        edge.says("Promise 24", "What was MENDED (0 .. 2) comes to the BOOK: how many years there are (-1: it is empty then, 0).");
        ByLot x = new ByLot();
        for (int n = 1; n <= 12; n++) {
            edge.is("year " + n, x.book(n % 3), n);
        }
        edge.is("empty then", x.book(-1), 0);
        edge.is("years", x.count(6), 0);
        edge.is("of none", x.book(-1), 0);
        edge.is("again", x.book(2), 1);
        edge.says("Promise 24", "BAD;");
        for (int m : new int[] {-2, 3, LEAST, MOST}) {
            edge.stays("book(" + m + ")", Lands::busy, y -> y.book(m), -2);
            edge.stays("book(" + m + ") of twelve: named first", Lands::full, y -> y.book(m), -2);
        }
        edge.says("Promise 24", "FULL: 12.");
        for (int m = 0; m < 3; m++) {
            int step = m;
            edge.stays("book(" + m + ") of twelve", Lands::full, y -> y.book(step), -4);
        }
        x = Lands.full();
        edge.is("empty then", x.book(-1), 0);
        edge.is("not full then", x.book(0), 1);
    }

    private void looked() {
        edge.says("Promise 25", "LOOKED; -5.");
        ByLot x = Lands.with(Lands.of("", 0), 0, 0);
        edge.is("-5", x.looked(0, 0), -5);
        x.book(1);
        edge.is("0", x.looked(0, 0), 0);
        edge.says("Promise 25", "NONE.");
        for (int n : new int[] {-1, 5, 6, LEAST, MOST}) {
            edge.stays("HOLDER " + n, Lands::busy, y -> y.looked(n, 0), -1);
            edge.stays("HOLDING " + n, Lands::busy, y -> y.looked(0, n), -1);
        }
        edge.is("HOLDING 4 of four", Lands.busy().looked(0, 4), -1);
        edge.is("HOLDER 4 is there, HOLDING 3, too", Lands.busy().looked(4, 3) >= -5 ? 1 : 0, 1);
        edge.is("no BOOK", new ByLot().looked(0, 0), -1);
    }

    private static ByLot fallen(int... items) {
        return Lands.bytes(Lands.of("fall 1 s>0;fall 1 i=1&s>1", 3, 9, 0), 5, items);
    }

    private void judged() {
        edge.says("Terms 4", "STATES told by a row of bytes, from a place on, HOLDING by HOLDING, are JUDGED"
            + " against how all is behind n years:");
        edge.is("behind none", fallen(3, 9, 0).judge(5, 0, 0), -5);
        edge.is("behind 1", fallen(2, 7, 0).judge(5, 0, 1), -5);
        edge.is("behind 36", fallen(0, 0, 0).judge(5, 0, 36), -5);
        edge.is("from 2 on", fallen(9, 9, 3, 9, 0, 9).judge(5, 2, 0), -5);
        ByLot x = fallen(2, 7, 0, 1, 5, 0);
        x.go(1);
        edge.is("from how all is", x.judge(5, 3, 1), -5);
        edge.is("STATES stay", x.judge(5, 0, 0), -5);
        edge.is("as nobody mends", Lands.bytes(Lands.of("fall 9 s<99", 9), 0, 0).judge(0, 0, 1), -5);
        ByLot y = Lands.with(Lands.of("bring 9 s>0", 0, 0, 3), 0, 0, 1, 0, 6, 5);
        edge.is("as each mends", Lands.bytes(y, 0, 0, 1, 5).judge(0, 0, 2), -5);
        edge.says("Terms 4", "the first HOLDING that is otherwise;");
        edge.is("0", fallen(2, 9, 0).judge(5, 0, 0), 0);
        edge.is("0 and 1", fallen(4, 8, 0).judge(5, 0, 0), 0);
        edge.is("1", fallen(3, 8, 0).judge(5, 0, 0), 1);
        edge.is("2", fallen(3, 9, 1).judge(5, 0, 0), 2);
        edge.is("2, below 0", fallen(3, 9, -1).judge(5, 0, 0), 2);
        edge.is("5 of six", Lands.bytes(Lands.full(), 0, 1, 2, 3, 4, 5, 5).judge(0, 0, 0), 5);
        edge.is("0, ahead of an end", fallen(2).judge(5, 0, 0), 0);
    }

    private void judgedToTheEnd() {
        edge.says("Terms 4", "-5: none, or there is none to look at;");
        edge.is("none of three", fallen(3, 9, 0).judge(5, 0, 0), -5);
        edge.is("none of six", Lands.bytes(Lands.full(), 0, 1, 2, 3, 4, 5, 6).judge(0, 0, 0), -5);
        edge.is("no HOLDINGS, three bytes", Lands.bytes(new ByLot(), 0, 3, 9, 0).judge(0, 0, 0), -5);
        edge.is("no HOLDINGS, no bytes", Lands.bytes(new ByLot(), 0).judge(0, 0, 36), -5);
        edge.says("Terms 4", "100 and how many were looked at, if the row ends ahead of that"
            + " (or the place is below 0, or the TAPE holds nothing).");
        edge.is("it ends behind none", fallen().judge(5, 0, 0), 100);
        edge.is("it ends behind one", fallen(3).judge(5, 0, 0), 101);
        edge.is("it ends behind two", fallen(3, 9).judge(5, 0, 0), 102);
        edge.is("from the last place on", fallen(3, 9, 3).judge(5, 2, 0), 101);
        edge.is("from its end on", fallen(3, 9, 0).judge(5, 3, 0), 100);
        edge.is("from beyond its end on", fallen(3, 9, 0).judge(5, 4, 0), 100);
        edge.is("from far beyond", fallen(3, 9, 0).judge(5, MOST, 0), 100);
        edge.is("five of six", Lands.bytes(Lands.full(), 0, 1, 2, 3, 4, 5).judge(0, 0, 0), 105);
        edge.is("a place of -1", fallen(3, 9, 0).judge(5, -1, 0), 100);
        edge.is("a place far below", fallen(3, 9, 0).judge(5, LEAST, 36), 100);
        edge.is("it holds nothing", fallen(3, 9, 0).judge(4, 0, 0), 100);
        edge.is("it holds nothing, behind 36", fallen(3, 9, 0).judge(4, MOST, 36), 100);
        ByLot x = fallen(3, 9, 0);
        x.tape(5, -1, 0);
        edge.is("it holds nothing any more", x.judge(5, 0, 0), 100);
        x = fallen();
        x.tape(5, 0, 60);
        x.item(5, 59, 3);
        edge.is("from the last of 60 on", x.judge(5, 59, 0), 101);
    }

    private void judge() {
        edge.says("Promise 26", "JUDGED from place i of a TAPE on, behind n years (0 .. 36).");
        ByLot x = Lands.bytes(Lands.of("fall 1 s>1", 3), 0, 3, 2, 1, 1);
        edge.is("place 0, 0 years", x.judge(0, 0, 0), -5);
        edge.is("place 3, 36 years", x.judge(0, 3, 36), -5);
        edge.is("place 2, 1 year", x.judge(0, 2, 1), 0);
        edge.says("Promise 26", "NONE: tape;");
        for (int tape : new int[] {-1, 6, LEAST, MOST}) {
            edge.stays("TAPE " + tape, Lands::busy, y -> y.judge(tape, 0, 0), -1);
            edge.is("TAPE " + tape + ", n 37: named first", Lands.busy().judge(tape, 0, 37), -1);
            edge.is("TAPE " + tape + ", no HOLDINGS", new ByLot().judge(tape, 0, 0), -1);
        }
        edge.says("Promise 26", "BAD;");
        for (int n : new int[] {-1, 37, LEAST, MOST}) {
            edge.stays("n " + n, Lands::busy, y -> y.judge(0, 0, n), -2);
            edge.is("n " + n + " of longs: named first", Lands.busy().judge(1, 0, n), -2);
            edge.is("n " + n + ", a place below 0", Lands.busy().judge(0, -1, n), -2);
            edge.is("n " + n + ", no HOLDINGS", new ByLot().judge(0, 0, n), -2);
        }
        edge.says("Promise 26", "CAST: it is no row of bytes.");
        for (int sort = 1; sort <= 4; sort++) {
            int other = sort;
            edge.stays("sort " + sort, () -> rowOf(other, 3), y -> y.judge(0, 0, 0), -12);
            edge.is("sort " + sort + ", a place below 0", rowOf(other, 3).judge(0, -1, 36), -12);
            edge.is("sort " + sort + ", no items", rowOf(other, 0).judge(0, 0, 0), -12);
            ByLot none = new ByLot();
            none.tape(0, sort, 3);
            edge.is("sort " + sort + ", no HOLDINGS", none.judge(0, 0, 0), -12);
        }
    }

    private static ByLot rowOf(int sort, int n) {
        ByLot x = Lands.of("", 0, 0);
        x.tape(0, sort, n);
        return x;
    }

    private void theImage() {
        edge.says("Terms 3", "THE IMAGE: STATES, who has which, PURSES, LEFT, ROUND, the YEAR, the LOT told by hand, the BOOK,"
            + " which VALLEY holds");
        ByLot x = Lands.with(Lands.of("fall 1 s<99;bring 2 s<99", 9, 5), 0, 0, 0, 0, 0, 0);
        x.set(0, 7);
        Lands.lots(x, 1, 0);
        Lands.books(x, 0, 0, 1);
        x.go(2);
        edge.is("taken", x.image(), 2);
        x.set(0, 5);
        x.lot(-1);
        Lands.lots(x, 1, 0);
        x.book(-1);
        x.book(1);
        Lands.valley(x, "bring 50 s<99;pay 9");
        x.go(5);
        edge.is("who has which, changed", x.has(0, 2), 1);
        x.lot(2);
        edge.is("undone", x.undo(), 2);
        edge.is("STATE of 0", x.of(0, 0), 7);
        edge.is("STATE of 1", x.of(1, 0), 3);
        edge.is("who has which", x.has(0, 2), 0);
        edge.is("who has which", x.of(1, 1), 1);
        edge.is("who has none", x.has(2, 2), -5);
        edge.is("PURSE of 0", x.has(0, 3), 4);
        edge.is("PURSE of 2", x.has(2, 3), 0);
        edge.is("LEFT", x.count(4), 5);
        edge.is("ROUND", x.set(0, 7), 7);
        edge.is("the YEAR", x.count(3), 2);
        edge.is("the LOT", x.count(5), 2);
        edge.is("the LOT has 1", x.lot(1), -3);
        edge.is("the LOT has no 2", x.lot(2), 3);
        edge.is("the BOOK", x.count(6), 3);
        edge.is("what the BOOK tells", x.looked(0, 0), 2);
        edge.is("which VALLEY", x.told(1, 1, 0, 0, 1), 2);
        edge.is("which VALLEY", x.told(1, 1, 0, 0, 3), 0);
        allOfIt();
    }

    private void allOfIt() {
        ByLot x = Lands.with(Lands.of("", 0, 0, 0, 0, 0, 0), 6, 0, 6, 0, 6, 0, 6, 0, 6, 0, 6, 0);
        for (int k = 0; k < 6; k++) {
            x.row(k, 9, 1);
        }
        Lands.books(x, 1, 0, 0, 0, 0, 0, 0, 0, 0, 1, 0, 0);
        Lands.lots(x, 5, 4, 3, 2, 1, 0);
        x.image();
        Lands.valley(x, "bring 3 s<99");
        x.go(9);
        edge.is("the last one's HOLDING", x.has(5, 2), 0);
        x.book(-1);
        Lands.books(x, 0, 0, 0, 0, 0, 0, 0, 0, 0, 0, 0, 2);
        x.lot(-1);
        x.undo();
        for (int n = 0; n < 6; n++) {
            edge.is("STATE of " + n, x.of(n, 0), 0);
            edge.is("whose " + n, x.of(n, 1), n);
            edge.is("PURSE of " + n, x.has(n, 3), 0);
        }
        edge.is("twelve years of the BOOK", x.looked(5, 5), -5);
        edge.is("six of the LOT", x.lot(0), -3);
        x.go(9);
        edge.is("the last of the LOT", x.has(5, 2), 0);
    }

    private void cameSince() {
        edge.says("Terms 3", "(HOLDINGS that came since stay, with STATE 0, and are nobody's;"
            + " HOLDERS that came since have none, PURSE 0).");
        ByLot x = Lands.with(Lands.of("bring 3 s<99", 4), 0, 0, 6, 7);
        x.image();
        x.holding(9);
        x.holding(8);
        x.holder(6, 9);
        x.row(2, 9, 2);
        x.go(1);
        edge.is("it had one", x.has(2, 2), 2);
        edge.is("its PURSE was more", x.has(2, 3), 3);
        x.undo();
        edge.is("they stay", x.count(0), 3);
        edge.is("they stay", x.count(1), 3);
        edge.is("HOLDING 1 of HOLDER 1", x.of(1, 1), -5);
        edge.is("HOLDER 1 was there, and had none", x.has(1, 2), -5);
        edge.is("STATE of 1", x.of(1, 0), 0);
        edge.is("STATE of 2", x.of(2, 0), 0);
        edge.is("whose 2 is", x.of(2, 1), -5);
        edge.is("HOLDER 2 has none", x.has(2, 2), -5);
        edge.is("PURSE of 2", x.has(2, 3), 0);
        edge.is("KIND of 2", x.has(2, 0), 6);
        edge.is("v of 2", x.has(2, 1), 9);
        edge.is("ROW of 2", x.row(2, 9, 2), 2);
        edge.is("the next HOLDER", x.holder(0, 0), 3);
        edge.is("has no HOLDING of its number", x.has(3, 2), -5);
        edge.is("the next HOLDING", x.holding(6), 3);
        edge.is("is its", x.of(3, 1), 3);
    }

    private void image() {
        edge.says("Promise 27", "THE IMAGE is taken: which YEAR it is.");
        ByLot x = Lands.of("fall 1 s<99", 9);
        edge.is("YEAR 0", x.image(), 0);
        x.go(3);
        edge.is("YEAR 3", x.image(), 3);
        x.go(1);
        edge.is("the newest", x.undo(), 3);
        edge.is("its STATES", x.of(0, 0), 6);
        x.go(2);
        edge.is("STATES go on", x.of(0, 0), 4);
        edge.is("the same once more", x.undo(), 3);
        edge.is("its STATES stay", x.of(0, 0), 6);
        edge.only("taken twice", () -> imaged(Lands.busy()), ByLot::image);
        for (int n = 0; n < 27; n++) {
            x.go(36);
        }
        x.go(24);
        edge.is("YEAR 999", x.image(), 999);
    }

    private static ByLot imaged(ByLot x) {
        x.image();
        return x;
    }

    private void undo() {
        edge.says("Promise 28", "All is as THE IMAGE: which YEAR it is.");
        ByLot x = new ByLot();
        x.image();
        Lands.with(x, 1, 0);
        x.holding(5);
        Lands.valley(x, "pay 4");
        Lands.lots(x, 0);
        x.book(1);
        x.set(0, 2);
        x.go(36);
        edge.is("to YEAR 0", x.undo(), 0);
        int[] counts = {1, 1, 1, 0, 9, 0, 0, 0, 0};
        for (int what = 0; what < counts.length; what++) {
            edge.is("count(" + what + ")", x.count(what), counts[what]);
        }
        edge.is("ROUND", x.set(0, 9), 9);
        edge.is("no VALLEY holds", x.told(0, 1, 0, 0, 3), 0);
        edge.is("the next VALLEY", Lands.valley(x, "keep 4"), 1);
        edge.is("no VALLEY holds, once more", x.undo() + x.told(0, 1, 0, 0, 4), 0);
        edge.says("Promise 28", "STATE: there is none.");
        edge.is("a new object", new ByLot().undo(), -3);
        edge.stays("no image was taken", Lands::full, ByLot::undo, -3);
        edge.is("once more", Lands.full().undo(), -3);
    }
}
