/** Edges of years as they go, and of the LOT told by hand. */
final class YearEdges {
    private static final int MOST = Integer.MAX_VALUE, LEAST = Integer.MIN_VALUE;
    private final Edge edge;

    YearEdges(Edge edge) {
        this.edge = edge;
    }

    void all() {
        steps();
        costs();
        falls();
        gain();
        nobodys();
        withoutHolding();
        leftInAll();
        yearGoes();
        lastYear();
        leftIsRoundAgain();
        drawn();
        kept();
        go();
        lot();
        lotRefused();
    }

    /** TOLD ones that mend m in the first two years of nine. */
    private static ByLot told(String valley, int m, int... states) {
        ByLot x = Lands.of(valley, states);
        for (int k = 0; k < states.length; k++) {
            x.holder(6, 0);
            x.row(k, 9, m);
            x.row(k, 8, m);
        }
        return x;
    }

    private void states(ByLot x, int... want) {
        for (int h = 0; h < want.length; h++) {
            edge.is("STATE of " + h, x.of(h, 0), want[h]);
        }
    }

    private void purses(ByLot x, int... want) {
        for (int k = 0; k < want.length; k++) {
            edge.is("PURSE of " + k, x.has(k, 3), want[k]);
        }
    }

    private void has(ByLot x, int... want) {
        for (int k = 0; k < want.length; k++) {
            edge.is("the HOLDING of " + k, x.has(k, 2), want[k]);
        }
    }

    private void steps() {
        edge.says("Terms 1", "A YEAR of a HOLDING: its HOLDER MENDS m steps (0 .. 2, STATE 9 at most: fewer, if it would be above):");
        ByLot x = told("cost 3 s<99", 2, 0, 6, 7, 8, 9);
        x.go(1);
        states(x, 2, 8, 9, 9, 9);
        purses(x, -6, -6, -6, -3, 0);
        x = told("cost 3 s<99", 1, 0, 7, 8, 9);
        x.go(1);
        states(x, 1, 8, 9, 9);
        purses(x, -3, -3, -3, 0);
        x = told("cost 3 s<99", 0, 0, 9);
        x.go(1);
        states(x, 0, 9);
        purses(x, 0, 0);
    }

    private void costs() {
        edge.says("Terms 1", "each costs COST (by STATE as the YEAR begins);");
        ByLot x = told("cost 3 s=4;cost 50 s>4", 2, 4, 3);
        x.go(1);
        purses(x, -6, 0);
        edge.says("Terms 1", "then it brings BRING (by STATE as mended);");
        x = told("bring 5 s=6;bring 40 s<6;fall 9 s<99", 2, 4, 7);
        x.go(1);
        purses(x, 5, 0);
        states(x, 0, 0);
    }

    private void falls() {
        edge.says("Terms 1", "then STATE falls by FALL (by STATE as mended; 0 at least).");
        ByLot x = told("fall 2 s=6;fall 9 s<6", 2, 4, 3, 5);
        x.go(1);
        states(x, 4, 0, 7);
        x = told("fall 3 s<99", 0, 4, 3, 2, 0, 9);
        x.go(1);
        states(x, 1, 0, 0, 0, 6);
        x = told("fall 9 s<99", 0, 9, 8);
        x.go(1);
        states(x, 0, 0);
    }

    private void gain() {
        edge.says("Terms 1", "GAIN: BRING less m times COST.");
        int[] gains = {7, 2, -3};
        for (int m = 0; m < 3; m++) {
            ByLot x = told("bring 7 s<99;cost 5 s<99", m, 3);
            x.go(1);
            purses(x, gains[m]);
        }
    }

    private void nobodys() {
        edge.says("Terms 1", "HOLDINGS that are nobody's fall alike (p 99), and bring nothing;");
        ByLot x = Lands.with(Lands.of("fall 1 p=99;fall 2 p<99;fall 4 p>98;bring 9 p=99;bring 9 i=1;pay 9", 9, 9), 0, 0);
        edge.is("all GAINS of 36 years", x.rounds(1), 0);
        x.go(1);
        states(x, 7, 4);
        x.go(1);
        states(x, 5, 0);
        x.go(7);
        states(x, 0, 0);
        purses(x, 0);
        x = Lands.with(Lands.of("fall 1 p=99;fall 2 p<99", 9, 9, 9, 9, 9, 9), 0, 0);
        edge.is("told of HOLDER 0", x.told(9, 9, 2, 0, 0), 2);
        edge.is("told of HOLDER 5", x.told(9, 9, 4, 5, 0), 2);
        x.go(1);
        states(x, 7, 8, 8, 8, 8, 8);
        edge.is("told of HOLDER 0", x.told(9, 9, 3, 0, 0), 2);
        x = Lands.of("fall 3 l=9;fall 5 s=6", 9);
        x.go(1);
        states(x, 6);
        x.go(1);
        states(x, 1);
    }

    private void withoutHolding() {
        edge.says("Terms 1", "HOLDERS without a HOLDING do and gain nothing.");
        ByLot x = Lands.with(Lands.of("bring 9 p>0;cost 5 p>0;pay 9", 5), 0, 0, 6, 0, 4, 9, 2, 9);
        x.row(1, 9, 2);
        x.go(9);
        purses(x, 45, 0, 0, 0);
        states(x, 5);
        has(x, 0, -5, -5, -5);
    }

    private void leftInAll() {
        edge.says("Terms 1", "LEFT is that of the valley in all.");
        ByLot x = told("fall 1 l=9;bring 4 l=9;cost 2 l=9", 1, 4);
        x.go(1);
        states(x, 4);
        purses(x, 2);
        x.go(1);
        states(x, 5);
        purses(x, 2);
        edge.is("for what one would do", x.worth(0, 0, 9), 2);
        edge.is("a year later", x.worth(0, 0, 8), 0);
    }

    private void yearGoes() {
        edge.says("Terms 2", "A YEAR goes: all HOLDERS by numbers MEND, by how all is as it begins;");
        ByLot x = Lands.with(Lands.of("bring 10 s<99;cost 10 s<99", 0, 0), 2, 9, 2, 9);
        x.go(1);
        states(x, 0, 0);
        x.go(1);
        states(x, 1, 1);
        edge.says("Terms 2", "GAINS come to PURSES; LEFT is one less.");
        purses(x, 10, 10);
        edge.is("LEFT", x.count(4), 7);
        x.go(1);
        purses(x, 10, 10);
        edge.is("LEFT", x.count(4), 6);
    }

    private void lastYear() {
        edge.says("Terms 2", "If it was the last one: HOLDERS have pay times STATE (as it is then) of their HOLDINGS more;");
        ByLot x = Lands.with(Lands.of("fall 2 l<2;pay 7", 9, 1, 4), 0, 0, 0, 0, 0, 0, 0, 0);
        Lands.lots(x, 1, 2, 0);
        x.go(8);
        purses(x, 0, 0, 0, 0);
        x.go(1);
        purses(x, 49, 0, 14, 0);
        has(x, 1, 2, 0, -5);
        x = Lands.with(Lands.of("pay 99", 9), 0, 0);
        x.set(0, 1);
        x.go(3);
        purses(x, 3 * 891);
    }

    private void leftIsRoundAgain() {
        edge.says("Terms 2", "LEFT is ROUND again, and a LOT is drawn:");
        for (int round = 1; round <= 9; round++) {
            ByLot x = Lands.with(Lands.of("", 0, 1), 0, 0, 0, 0);
            x.set(0, round);
            Lands.lots(x, 1, 0);
            if (round > 1) {
                x.go(round - 1);
                edge.is("LEFT of the last year", x.count(4), 1);
                has(x, 0, 1);
            }
            x.go(1);
            edge.is("LEFT is ROUND", x.count(4), round);
            has(x, 1, 0);
        }
    }

    private void drawn() {
        edge.says("Terms 2", "by the row told by hand, if that has all HOLDINGS that there are, each once:"
            + " HOLDER k has the HOLDING that its k-th tells (HOLDERS beyond it none);");
        ByLot x = Lands.full();
        x.go(9);
        has(x, 5, 4, 3, 2, 1, 0);
        x = Lands.with(Lands.of("", 1, 1), 0, 0, 0, 0, 0, 0);
        Lands.lots(x, 1, 0);
        x.go(9);
        has(x, 1, 0, -5);
        x.holding(4);
        edge.is("a third one", x.of(2, 1), 2);
        x.lot(-1);
        Lands.lots(x, 2, 0, 1);
        x.go(9);
        has(x, 2, 0, 1);
        x = Lands.with(Lands.of("", 1, 1, 1), 0, 0);
        Lands.lots(x, 2, 1, 0);
        x.go(9);
        has(x, 2);
        edge.is("what its second tells", x.of(1, 1), -5);
        edge.is("what it had", x.of(0, 1), -5);
        x.go(9);
        has(x, 2);
    }

    private void kept() {
        edge.says("Terms 2", "else all keep what they have.");
        ByLot x = Lands.with(Lands.of("", 1, 1, 1), 0, 0, 0, 0, 0, 0, 0, 0);
        x.go(9);
        has(x, 0, 1, 2, -5);
        Lands.lots(x, 2, 1);
        x.go(9);
        has(x, 0, 1, 2, -5);
        x.lot(3);
        x.go(9);
        has(x, 0, 1, 2, -5);
        x.lot(0);
        x.go(9);
        has(x, 0, 1, 2, -5);
        x.lot(-1);
        Lands.lots(x, 2, 1, 0);
        x.go(9);
        has(x, 2, 1, 0, -5);
        x.holding(1);
        x.lot(-1);
        Lands.lots(x, 0, 1, 2);
        x.go(9);
        has(x, 2, 1, 0, 3);
        x = Lands.with(new ByLot(), 0, 0);
        x.go(9);
        has(x, -5);
        x.lot(0);
        x.go(9);
        has(x, -5);
    }

    private void go() {
        edge.says("Promise 14", "n YEARS (1 .. 36) go: which YEAR it is.");
        ByLot x = Lands.of("fall 1 s<99", 9);
        edge.is("1", x.go(1), 1);
        states(x, 8);
        edge.is("8 more", x.go(8), 9);
        states(x, 0);
        edge.is("36 more", x.go(36), 45);
        edge.is("which YEAR", x.count(3), 45);
        edge.says("Promise 14", "BAD;");
        for (int n : new int[] {-1, 0, 37, LEAST, MOST}) {
            edge.stays("go(" + n + ")", Lands::busy, y -> y.go(n), -2);
            edge.is("go(" + n + ") in YEAR 999: named first", late(27).go(n), -2);
        }
        edge.says("Promise 14", "STATE: it would be above 999.");
        edge.is("999", late(0).go(27), 999);
        edge.stays("1000", () -> late(0), y -> y.go(28), -3);
        edge.stays("1008", () -> late(0), y -> y.go(36), -3);
        edge.stays("1000, a year on", () -> late(27), y -> y.go(1), -3);
        edge.is("back in the YEAR of the image", late(27).undo(), 36);
        x = late(27);
        x.undo();
        edge.is("behind an undo", x.go(36), 72);
    }

    /** In the YEAR 972 and n; the image is of the YEAR 36. */
    private static ByLot late(int n) {
        ByLot x = Lands.with(Lands.of("bring 1 s<99", 5), 2, 9);
        x.go(36);
        x.image();
        for (int y = 1; y < 27; y++) {
            x.go(36);
        }
        if (n > 0) {
            x.go(n);
        }
        return x;
    }

    private void lot() {
        edge.says("Promise 15", "A HOLDING (0 .. 5) comes to the row of the LOT told by hand: how many there are");
        ByLot x = new ByLot();
        int[] row = {5, 0, 3, 1, 4, 2};
        for (int n = 0; n < 6; n++) {
            edge.is("lot(" + row[n] + ")", x.lot(row[n]), n + 1);
        }
        edge.is("how many", x.count(5), 6);
        edge.says("Promise 15", "(-1: it is empty then, 0).");
        edge.is("of six", x.lot(-1), 0);
        edge.is("how many", x.count(5), 0);
        edge.is("of none", x.lot(-1), 0);
        edge.is("one that was there", x.lot(5), 1);
    }

    private void lotRefused() {
        edge.says("Promise 15", "NONE;");
        for (int h : new int[] {-2, 6, LEAST, MOST}) {
            edge.stays("lot(" + h + ")", Lands::busy, y -> y.lot(h), -1);
            edge.stays("lot(" + h + ") of six: named first", Lands::full, y -> y.lot(h), -1);
        }
        edge.says("Promise 15", "STATE: it is there already;");
        for (int h : new int[] {2, 0, 3}) {
            edge.stays("lot(" + h + ")", Lands::busy, y -> y.lot(h), -3);
        }
        edge.is("one that is not", Lands.busy().lot(1), 4);
        // With six there each is there already, and that is named first.
        edge.says("Promise 15", "FULL: 6.");
        for (int h = 0; h < 6; h++) {
            int holding = h;
            edge.stays("lot(" + h + ") of six", Lands::full, y -> y.lot(holding), -3);
        }
    }
}
