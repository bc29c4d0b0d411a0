/** Edges of what each KIND MENDS, of ROWS and of WORTH. */
final class KindEdges {
    private static final int MOST = Integer.MAX_VALUE, LEAST = Integer.MIN_VALUE;
    private final Edge edge;

    KindEdges(Edge edge) {
        this.edge = edge;
    }

    void all() {
        asHolder();
        plain();
        firstAsRow();
        asLong();
        paid();
        swap();
        poor();
        told();
        worthOfTheBestRow();
        worthOfWhatTheyDo();
        row();
        rowRefused();
        mends();
        would();
        worth();
    }

    /** One HOLDER, with HOLDINGS of these STATES. */
    private static ByLot one(int kind, int v, String valley, int... states) {
        return Lands.with(Lands.of(valley, states), kind, v);
    }

    private void would(ByLot x, int left, int... want) {
        for (int h = 0; h < want.length; h++) {
            edge.is("would(0, " + h + ", " + left + ")", x.would(0, h, left), want[h]);
        }
    }

    private void worths(ByLot x, int left, int... want) {
        for (int h = 0; h < want.length; h++) {
            edge.is("worth(0, " + h + ", " + left + ")", x.worth(0, h, left), want[h]);
        }
    }

    private void asHolder() {
        edge.says("Terms 2", "What each MENDS: HOLDER: nothing.");
        ByLot x = one(0, 9, "bring 9 s>0;pay 9", 0, 4, 9);
        for (int left = 1; left <= 9; left++) {
            would(x, left, 0, 0, 0);
        }
    }

    private void plain() {
        edge.says("Terms 2", "PLAIN: the m that begins the best row of m from now to the lot: the greatest sum of GAINS of the years LEFT;");
        ByLot x = one(1, 9, "bring 5 s>4;cost 2 s<99;pay 99", 4, 3, 2, 1, 0, 9);
        would(x, 1, 1, 2, 0, 0, 0, 0);
        // Three steps are 6: with two years they come to 5, with three to 10.
        would(x, 2, 1, 2, 0, 0, 0, 0);
        would(x, 3, 1, 2, 1, 2, 0, 0);
        worths(x, 1, 3, 1, 0, 0, 0, 5);
        worths(x, 3, 13, 11, 4, 2, 0, 15);
        x = one(1, 0, "bring 9 l=1&s>0;cost 1 l>1;cost 8 l=1", 0);
        would(x, 1, 1);
        would(x, 2, 1);
        worths(x, 9, 8);
    }

    private void firstAsRow() {
        edge.says("Terms 2", "of several rows the first as a row (the fewest first).");
        would(one(1, 0, "bring 2 s>4;cost 2 s<99", 4), 1, 0);
        would(one(1, 0, "bring 3 s>4;cost 2 s<99", 4), 1, 1);
        would(one(1, 0, "bring 4 s=6;cost 2 s<99", 4), 1, 0);
        would(one(1, 0, "bring 2 s>4", 4), 1, 1);
        would(one(1, 0, "bring 1 s=5;bring 2 s=6", 4), 1, 2);
        // 0 then 1 as well as 1 then 0; 1 then 2 as well as 2 then 1.
        would(one(1, 0, "bring 5 s>4&l=1;cost 2 s<99", 4), 2, 0);
        would(one(1, 0, "bring 9 s>4&l=1;cost 2 s<99", 2), 2, 1);
        would(one(1, 0, "", 0, 9, 8), 9, 0, 0, 0);
    }

    private void asLong() {
        edge.says("Terms 2", "LONG: as PLAIN, but as if there were v years more to the lot (LEFT is so much greater in E, too).");
        String valley = "bring 1 s>0;cost 99 l<18";
        would(one(3, 9, valley, 0), 9, 1);
        worths(one(3, 9, valley, 0), 9, 18);
        would(one(3, 9, valley, 0), 8, 0);
        would(one(3, 8, valley, 0), 9, 0);
        worths(one(3, 8, valley, 0, 1), 9, 0, 17);
        valley = "bring 3 s>0&l=1;cost 2 s<99";
        would(one(1, 0, valley, 0), 1, 1);
        would(one(3, 0, valley, 0), 1, 1);
        // With a year more it may wait.
        would(one(3, 1, valley, 0), 1, 0);
        worths(one(3, 1, valley, 0), 1, 1);
        worths(one(3, 0, "bring 2 s>0", 1), 9, 18);
        worths(one(3, 9, "bring 2 s>0", 1), 1, 20);
        worths(one(3, 9, "bring 2 s>0;pay 99", 1), 9, 36);
    }

    private void paid() {
        edge.says("Terms 2", "PAID: as PLAIN, but pay times the STATE behind the last year comes to the sum.");
        ByLot x = one(4, 9, "cost 3 s<99;pay 3", 5);
        would(x, 1, 0);
        worths(x, 1, 15);
        x = one(4, 0, "cost 3 s<99;pay 4", 5, 0, 9, 8);
        would(x, 1, 2, 2, 0, 1);
        worths(x, 1, 22, 2, 36, 33);
        worths(x, 9, 24, 9, 36, 33);
        x = one(4, 9, "cost 3 s<99;pay 4;fall 9 l=1", 5);
        would(x, 1, 0);
        worths(x, 9, 0);
        worths(one(4, 9, "fall 2 s<99;pay 99", 5, 1), 1, 495, 99);
        x = one(4, 9, "bring 3 s=6;cost 2 s<99", 5);
        would(x, 1, 1);
        worths(x, 1, 1);
    }

    private void swap() {
        edge.says("Terms 2", "SWAP: as PLAIN, but v times the STATE behind the last year does.");
        ByLot x = one(5, 3, "cost 3 s<99;pay 99", 5);
        would(x, 1, 0);
        worths(x, 1, 15);
        x = one(5, 4, "cost 3 s<99", 5, 0, 9, 8);
        would(x, 1, 2, 2, 0, 1);
        worths(x, 1, 22, 2, 36, 33);
        x = one(5, 9, "cost 3 s<99;fall 9 l=1", 5);
        would(x, 1, 0);
        worths(x, 1, 0);
        x = one(5, 0, "bring 3 s=6;cost 2 s<99;pay 9", 5);
        would(x, 1, 1);
        worths(x, 1, 1);
    }

    private void poor() {
        edge.says("Terms 2", "POOR: 1, if STATE is below v, and its PURSE is not below COST; else nothing.");
        for (int v = 0; v <= 9; v++) {
            ByLot x = one(2, v, "pay 9", Math.max(0, v - 1), v, Math.min(9, v + 1));
            would(x, 1, v > 0 ? 1 : 0, 0, 0);
        }
        would(one(2, 9, "cost 1 s=5", 4, 5, 6), 1, 1, 0, 1);
        would(one(2, 9, "cost 1 l=5", 4), 5, 0);
        would(one(2, 9, "cost 1 l=5", 4), 4, 1);
        ByLot x = one(2, 9, "bring 4 s<99", 0);
        x.go(1);
        Lands.valley(x, "cost 4 s<99");
        edge.is("a PURSE as great as COST", x.mends(0), 1);
        Lands.valley(x, "cost 5 s<99");
        edge.is("a PURSE one below COST", x.mends(0), 0);
        x = one(6, 9, "cost 1 l=9", 0);
        x.row(0, 9, 1);
        x.go(1);
        edge.is("a PURSE below 0", x.has(0, 3), -1);
        edge.is("is below a COST of 0", x.mends(0), 0);
    }

    private void told() {
        edge.says("Terms 2", "TOLD: what its ROW tells for LEFT (0, 1, 2); else as POOR.");
        ByLot x = one(6, 5, "cost 9 s=3", 2, 3, 4, 5);
        x.row(0, 1, 0);
        x.row(0, 2, 1);
        x.row(0, 9, 2);
        would(x, 1, 0, 0, 0, 0);
        would(x, 2, 1, 1, 1, 1);
        would(x, 9, 2, 2, 2, 2);
        for (int left = 3; left < 9; left++) {
            would(x, left, 1, 0, 1, 0);
        }
        x.row(0, 9, -1);
        would(x, 9, 1, 0, 1, 0);
    }

    private void worthOfTheBestRow() {
        edge.says("Terms 2", "WORTH of a HOLDER with a HOLDING as it is, so many years to the lot: the sum that its best row comes to");
        ByLot x = one(1, 0, "fall 1 s<99;bring 5 s>4;cost 2 s<99", 9, 5, 0);
        worths(x, 1, 5, 5, 0);
        worths(x, 9, 45 - 4 * 2, 45 - 8 * 2, 6 * 5 - 4 * 4 - 5 * 2);
        x.set(1, 1);
        edge.is("whatever LEFT is", x.worth(0, 0, 5), 25);
        x.go(1);
        edge.is("as it is", x.of(0, 0), 8);
        edge.is("as it is", x.worth(0, 0, 5), 23);
        Lands.valley(x, "cost 99 s<99");
        worths(x, 9, 0, 0, 0);
    }

    private void worthOfWhatTheyDo() {
        edge.says("Terms 2", "(HOLDER, POOR, TOLD: of GAINS of what they do till the lot, these coming to the PURSE).");
        ByLot x = one(0, 9, "bring 5 s>4;fall 1 s<99;pay 99", 9, 0);
        worths(x, 1, 5, 0);
        worths(x, 9, 25, 0);
        // From 4 on it has no step's worth; from 6 on the second step is what 5 brought.
        x = one(2, 9, "bring 5 s>4;fall 1 s<99;cost 4 s<99;pay 99", 4, 6);
        worths(x, 2, 0, 6);
        worths(x, 3, 0, 7);
        edge.is("the PURSE stays", x.has(0, 3), 0);
        x = one(2, 9, "bring 8 s<99", 0, 0);
        x.go(1);
        Lands.valley(x, "cost 5 s<99");
        // The PURSE of 8 pays one step, and with 2 more a second.
        worths(x, 9, -5, -5);
        Lands.valley(x, "cost 5 s<99;bring 2 i=0&l=9");
        worths(x, 9, -8, -5);
        x = Lands.with(Lands.of("bring 9 i=0", 0, 0), 0, 0, 2, 9);
        x.go(1);
        Lands.valley(x, "cost 5 s<99");
        edge.is("another's PURSE does not", x.worth(1, 0, 9), 0);
        x = one(6, 0, "cost 7 s<99;bring 1 s=9;pay 99", 0, 8);
        x.row(0, 2, 2);
        x.row(0, 1, 1);
        worths(x, 2, -21, -7 + 2);
        worths(x, 1, -7, -6);
        worths(x, 9, -21, -7 + 2);
        edge.is("nobody's PURSE", x.has(0, 3), 0);
    }

    private void row() {
        edge.says("Promise 10", "The ROW of a TOLD one tells m (0 .. 2; -1: nothing) for LEFT (1 .. 9): what it told (-5: nothing).");
        ByLot x = Lands.with(new ByLot(), 6, 0, 6, 0);
        for (int left : new int[] {1, 9}) {
            edge.is("nothing at first", x.row(0, left, 0), -5);
            edge.is("0", x.row(0, left, 2), 0);
            edge.is("2", x.row(0, left, 1), 2);
            edge.is("1", x.row(0, left, -1), 1);
            edge.is("nothing again", x.row(0, left, -1), -5);
            edge.is("nothing still", x.row(0, left, 2), -5);
        }
        for (int left = 2; left < 9; left++) {
            edge.is("nothing for " + left, x.row(0, left, left % 3), -5);
        }
        for (int left = 2; left < 9; left++) {
            edge.is("told for " + left, x.row(0, left, 0), left % 3);
            edge.is("another's", x.row(1, left, 0), -5);
        }
    }

    private void rowRefused() {
        edge.says("Promise 10", "NONE: holder, left;");
        for (int k : new int[] {-1, 5, 6, LEAST, MOST}) {
            edge.stays("HOLDER " + k, Lands::busy, x -> x.row(k, 1, 1), -1);
            edge.is("HOLDER " + k + ", m 3: named first", Lands.busy().row(k, 1, 3), -1);
        }
        for (int left : new int[] {-1, 0, 10, LEAST, MOST}) {
            edge.stays("LEFT " + left, Lands::busy, x -> x.row(1, left, 1), -1);
            edge.is("LEFT " + left + ", m 3: named first", Lands.busy().row(1, left, 3), -1);
            edge.is("LEFT " + left + " of a PLAIN one: named first", Lands.busy().row(0, left, 1), -1);
        }
        edge.says("Promise 10", "BAD;");
        for (int m : new int[] {-2, 3, LEAST, MOST}) {
            edge.stays("m " + m, Lands::busy, x -> x.row(1, 9, m), -2);
            edge.is("m " + m + " of a PLAIN one: named first", Lands.busy().row(0, 9, m), -2);
        }
        edge.says("Promise 10", "STATE: it has none.");
        for (int kind = 0; kind < 6; kind++) {
            int k = kind;
            edge.stays("KIND " + k, () -> one(k, 5, "", 3), x -> x.row(0, 9, 2), -3);
            edge.is("KIND " + k + ", m -1", one(k, 5, "", 3).row(0, 9, -1), -3);
        }
    }

    private void mends() {
        edge.says("Promise 11", "What a HOLDER MENDS in the year that comes (of its HOLDING; -5: it has none).");
        ByLot x = Lands.with(Lands.of("bring 3 l=9&i=1&p=1;cost 2 s=4", 9, 4), 1, 0, 1, 0, 1, 0);
        edge.is("of another STATE", x.mends(0), 0);
        edge.is("of its HOLDING", x.mends(1), 0);
        edge.is("it has none", x.mends(2), -5);
        Lands.valley(x, "bring 3 l=8&s>4&i=1&p=1;cost 2 s=4");
        x.set(1, 8);
        edge.is("in the year that comes", x.mends(1), 1);
        x.set(1, 7);
        edge.is("in another", x.mends(1), 0);
        x = Lands.with(Lands.of("cost 1 s=4", 4, 4, 9), 6, 5, 6, 0, 6, 0);
        x.row(1, 9, 1);
        x.row(2, 9, 2);
        Lands.lots(x, 1, 2, 0);
        x.go(9);
        edge.is("of the HOLDING that a lot gave", x.has(1, 2), 2);
        edge.is("of STATE 9", x.mends(1), 0);
        edge.is("of STATE 4", x.mends(2), 2);
        edge.only("mends(1)", Lands::busy, y -> y.mends(1));
        edge.says("Promise 11", "NONE.");
        for (int k : new int[] {-1, 5, 6, LEAST, MOST}) {
            edge.stays("mends(" + k + ")", Lands::busy, y -> y.mends(k), -1);
        }
        edge.is("mends(6) of six", Lands.full().mends(6), -1);
        edge.is("mends(0) of none", new ByLot().mends(0), -1);
    }

    private void would() {
        edge.says("Promise 12", "What a HOLDER would MEND in a HOLDING with so many years LEFT (1 .. 9).");
        ByLot x = Lands.with(Lands.of("bring 3 s=6&l=1;bring 4 s=5&i=1&p=1&l=9;cost 1 s<99", 4, 4), 1, 0, 1, 0);
        edge.is("LEFT 1", x.would(0, 0, 1), 2);
        edge.is("LEFT 9, another's HOLDING", x.would(0, 1, 9), 0);
        edge.is("LEFT 9, its own", x.would(1, 1, 9), 1);
        x.set(0, 1);
        edge.is("LEFT above ROUND", x.would(1, 1, 9), 1);
        edge.only("would(0, 3, 9)", Lands::busy, y -> y.would(0, 3, 9));
        edge.says("Promise 12", "NONE: holder, holding;");
        for (int n : new int[] {-1, 5, 6, LEAST, MOST}) {
            edge.stays("HOLDER " + n, Lands::busy, y -> y.would(n, 0, 1), -1);
            edge.is("HOLDER " + n + ", LEFT 0: named first", Lands.busy().would(n, 0, 0), -1);
            edge.stays("HOLDING " + n, Lands::busy, y -> y.would(0, n, 1), -1);
            edge.is("HOLDING " + n + ", LEFT 10: named first", Lands.busy().would(0, n, 10), -1);
        }
        edge.is("HOLDING 4 of four", Lands.busy().would(0, 4, 1), -1);
        edge.says("Promise 12", "BAD.");
        for (int left : new int[] {-1, 0, 10, 18, LEAST, MOST}) {
            edge.stays("LEFT " + left, Lands::busy, y -> y.would(0, 0, left), -2);
        }
    }

    private void worth() {
        edge.says("Promise 13", "WORTH of a HOLDER with a HOLDING, LEFT (1 .. 9) years to the lot.");
        ByLot x = Lands.with(Lands.of("bring 1 l=1;bring 20 l=9;bring 3 i=1;bring 5 p=1", 4, 4), 1, 0, 1, 0);
        edge.is("LEFT 1", x.worth(0, 0, 1), 1);
        edge.is("LEFT 8", x.worth(0, 0, 8), 1);
        edge.is("LEFT 9", x.worth(0, 0, 9), 21);
        edge.is("another's HOLDING", x.worth(0, 1, 1), 4);
        edge.is("its own", x.worth(1, 1, 1), 9);
        x.set(0, 1);
        edge.is("LEFT above ROUND", x.worth(0, 0, 9), 21);
        edge.only("worth(1, 3, 9)", Lands::busy, y -> y.worth(1, 3, 9));
        edge.says("Promise 13", "-100001: NONE;");
        for (int n : new int[] {-1, 5, 6, LEAST, MOST}) {
            edge.stays("HOLDER " + n, Lands::busy, y -> y.worth(n, 0, 1), -100001);
            edge.is("HOLDER " + n + ", LEFT 0: named first", Lands.busy().worth(n, 0, 0), -100001);
            edge.stays("HOLDING " + n, Lands::busy, y -> y.worth(0, n, 1), -100001);
            edge.is("HOLDING " + n + ", LEFT 10: named first", Lands.busy().worth(0, n, 10), -100001);
        }
        edge.is("HOLDING 4 of four", Lands.busy().worth(0, 4, 1), -100001);
        edge.says("Promise 13", "-100002: BAD.");
        for (int left : new int[] {-1, 0, 10, 18, LEAST, MOST}) {
            edge.stays("LEFT " + left, Lands::busy, y -> y.worth(0, 0, left), -100002);
        }
    }
}
