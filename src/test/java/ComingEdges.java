/** Edges of what comes: a new object, HOLDINGS, HOLDERS, what is set, KINDS. */
final class ComingEdges {
    private static final int MOST = Integer.MAX_VALUE, LEAST = Integer.MIN_VALUE;
    private final Edge edge;

    ComingEdges(Edge edge) {
        this.edge = edge;
    }

    void all() {
        lastCall();
        newObject();
        holdings();
        holders();
        holderThatComes();
        holdingThatComes();
        years();
        purse();
        holding();
        of();
        set();
        holder();
        kinds();
        has();
    }

    private void lastCall() {
        edge.says("Use", "An object is used for at most 512 calls after it has been made; what later calls answer is free.");
        ByLot x = Lands.with(Lands.of("", 9, 4), 1, 0, 3, 9);
        int calls = 4;
        for (; calls < 510; calls += 2) {
            x.rounds(1);
            x.pay();
        }
        edge.is("the 511th call", x.of(1, 0), 4);
        edge.is("the 512th call", x.go(36), 36);
    }

    private void newObject() {
        edge.says("Promise 1", "No HOLDINGS, nobody.");
        for (int n = 0; n < 6; n++) {
            edge.is("of(" + n + ", 0)", new ByLot().of(n, 0), -1);
            edge.is("has(" + n + ", 0)", new ByLot().has(n, 0), -100001);
        }
        edge.is("HOLDINGS", new ByLot().count(0), 0);
        edge.is("HOLDERS", new ByLot().count(1), 0);
    }

    private void holdings() {
        edge.says("Terms 1", "HOLDINGS 0 .. 5, as they come, each with a STATE (0 .. 9).");
        ByLot x = new ByLot();
        int[] states = {0, 9, 1, 8, 9, 0};
        for (int h = 0; h < 6; h++) {
            edge.is("HOLDING " + h + " comes", x.holding(states[h]), h);
        }
        for (int h = 0; h < 6; h++) {
            edge.is("STATE of " + h, x.of(h, 0), states[h]);
        }
        edge.is("a seventh", x.holding(0), -4);
        edge.is("no HOLDING 6", x.of(6, 0), -1);
    }

    private void holders() {
        edge.says("Terms 1", "HOLDERS 0 .. 5, as they come:");
        ByLot x = new ByLot();
        for (int k = 0; k < 6; k++) {
            edge.is("HOLDER " + k + " comes", x.holder(0, 0), k);
        }
        edge.is("a seventh", x.holder(0, 0), -4);
        edge.is("no HOLDER 6", x.has(6, 1), -100001);
    }

    private void holderThatComes() {
        edge.says("Terms 1", "a HOLDER that comes has the HOLDING of its number, if there is one and it is nobody's;");
        ByLot x = Lands.with(Lands.of("", 3), 0, 0, 0, 0);
        edge.is("there is one", x.has(0, 2), 0);
        edge.is("there is none", x.has(1, 2), -5);
        x = Lands.with(Lands.of("", 3, 3), 0, 0);
        Lands.lots(x, 1, 0);
        x.go(9);
        x.holder(0, 0);
        edge.is("it is another's", x.has(1, 2), -5);
        edge.is("and stays so", x.of(1, 1), 0);
        edge.is("another number's is left", x.of(0, 1), -5);
        x.lot(-1);
        Lands.lots(x, 0, 1);
        x.go(9);
        edge.is("until a lot", x.has(1, 2), 1);
    }

    private void holdingThatComes() {
        edge.says("Terms 1", "a HOLDING that comes is of the HOLDER of its number, if there is one that has none.");
        ByLot x = Lands.with(new ByLot(), 0, 0, 0, 0);
        x.holding(1);
        edge.is("there is one", x.of(0, 1), 0);
        x.holding(1);
        edge.is("there is another", x.of(1, 1), 1);
        x.holding(1);
        edge.is("there is none", x.of(2, 1), -5);
        x = new ByLot();
        x.image();
        x.holder(0, 0);
        x.holding(1);
        x.undo();
        x.holding(1);
        edge.is("one of another number that has none", x.of(1, 1), -5);
        edge.is("it has none still", x.has(0, 2), -5);
    }

    private void years() {
        edge.says("Terms 1", "LEFT: how many years there are to the lot, this one, too (1 .. ROUND);");
        ByLot x = Lands.of("", 3);
        for (int left = 9; left >= 1; left--) {
            edge.is("LEFT", x.count(4), left);
            x.go(1);
        }
        edge.is("behind the lot", x.count(4), 9);
        x.set(0, 1);
        for (int n = 0; n < 3; n++) {
            edge.is("LEFT of a ROUND of 1", x.count(4), 1);
            x.go(1);
        }
        edge.says("Terms 1", "ROUND (1 .. 9; 9 at first).");
        x = new ByLot();
        edge.is("at first", x.set(0, 1), 9);
        edge.is("1", x.set(0, 9), 1);
        edge.is("9", x.set(0, 9), 9);
        edge.is("0", x.set(0, 0), -2);
        edge.is("10", x.set(0, 10), -2);
        edge.says("Terms 1", "YEAR 0 at first.");
        edge.is("YEAR", new ByLot().count(3), 0);
        edge.is("YEAR of an image", new ByLot().image(), 0);
        edge.is("the first year gone", new ByLot().go(1), 1);
    }

    private void purse() {
        edge.says("Terms 1", "PURSE of a HOLDER: 0 at first (may be below 0).");
        ByLot x = Lands.with(Lands.of("cost 99 s<9", 0), 6, 0);
        edge.is("at first", x.has(0, 3), 0);
        x.row(0, 9, 2);
        x.go(1);
        edge.is("below 0", x.has(0, 3), -198);
        x.holder(0, 0);
        edge.is("of one that comes later", x.has(1, 3), 0);
    }

    private void holding() {
        edge.says("Promise 2", "A HOLDING: its number.");
        edge.is("STATE 0", new ByLot().holding(0), 0);
        edge.is("STATE 9", Lands.of("", 0, 0, 0, 0, 0).holding(9), 5);
        edge.says("Promise 2", "BAD: state;");
        for (int state : new int[] {-1, 10, LEAST, MOST}) {
            edge.stays("holding(" + state + ")", Lands::busy, x -> x.holding(state), -2);
        }
        edge.stays("holding(10) of 6: named first", Lands::full, x -> x.holding(10), -2);
        ByLot x = new ByLot();
        x.holding(10);
        edge.is("the next one's number", x.holding(3), 0);
        edge.says("Promise 2", "FULL: 6.");
        edge.is("five are not", Lands.of("", 1, 1, 1, 1, 1).holding(1), 5);
        edge.stays("a seventh", Lands::full, y -> y.holding(0), -4);
    }

    private void of() {
        edge.says("Promise 3", "Of a HOLDING what 0 STATE, 1 whose it is (-5: nobody's).");
        ByLot x = Lands.with(Lands.of("", 0, 9), 0, 0);
        edge.is("STATE 0", x.of(0, 0), 0);
        edge.is("STATE 9", x.of(1, 0), 9);
        edge.is("HOLDER 0's", x.of(0, 1), 0);
        edge.is("nobody's", x.of(1, 1), -5);
        edge.is("HOLDER 5's", Lands.full().of(5, 1), 5);
        edge.says("Promise 3", "NONE.");
        for (int h : new int[] {-1, 4, 5, 6, LEAST, MOST}) {
            edge.stays("of(" + h + ", 0)", Lands::busy, y -> y.of(h, 0), -1);
            edge.is("of(" + h + ", 1)", Lands.busy().of(h, 1), -1);
        }
        edge.is("HOLDING 3 is there", Lands.busy().of(3, 0) >= 0 ? 1 : 0, 1);
        for (int what : new int[] {-1, 2, LEAST, MOST}) {
            edge.is("of(0, " + what + ")", Lands.busy().of(0, what), -1);
        }
        edge.is("of(6, 0) of 6", Lands.full().of(6, 0), -1);
    }

    private void set() {
        edge.says("Promise 4", "ROUND (what 0; 1 .. 9), LEFT (1; 1 .. ROUND) becomes n");
        ByLot x = new ByLot();
        x.set(1, 1);
        edge.is("LEFT 1", x.count(4), 1);
        x.set(1, 9);
        edge.is("LEFT as many as ROUND", x.count(4), 9);
        x.set(0, 1);
        edge.is("ROUND 1", x.set(0, 9), 1);
        x.set(1, 9);
        edge.is("ROUND 9, LEFT 9", x.count(4), 9);
        edge.says("Promise 4", "(a ROUND that is less than LEFT makes that as many)");
        x = new ByLot();
        x.set(1, 5);
        x.set(0, 6);
        edge.is("ROUND is more than LEFT", x.count(4), 5);
        x.set(0, 5);
        edge.is("ROUND is as many as LEFT", x.count(4), 5);
        x.set(0, 4);
        edge.is("ROUND is one less than LEFT", x.count(4), 4);
        x.set(0, 9);
        edge.is("ROUND is more again", x.count(4), 4);
        edge.says("Promise 4", ": what it was.");
        edge.is("ROUND was 9", x.set(0, 1), 9);
        edge.is("LEFT was 1, not 4", x.set(1, 1), 1);
        edge.is("ROUND was 1", x.set(0, 7), 1);
        edge.is("LEFT was 1", x.set(1, 7), 1);
        edge.is("LEFT was 7", x.set(1, 7), 7);
        setRefused();
    }

    private void setRefused() {
        edge.says("Promise 4", "NONE;");
        for (int what : new int[] {-1, 2, LEAST, MOST}) {
            edge.stays("set(" + what + ", 1)", Lands::busy, y -> y.set(what, 1), -1);
            edge.stays("set(" + what + ", 0): named first", Lands::busy, y -> y.set(what, 0), -1);
        }
        edge.says("Promise 4", "BAD.");
        for (int n : new int[] {-1, 0, 10, LEAST, MOST}) {
            edge.stays("set(0, " + n + ")", Lands::busy, y -> y.set(0, n), -2);
        }
        for (int n : new int[] {-1, 0, 6, 9, 10, LEAST, MOST}) {
            edge.stays("set(1, " + n + "), ROUND 5", Lands::busy, y -> y.set(1, n), -2);
        }
        edge.is("LEFT 5, ROUND 5", Lands.busy().set(1, 5), 1);
    }

    private void holder() {
        edge.says("Promise 8", "A HOLDER: its number.");
        edge.is("KIND 0, v 0", new ByLot().holder(0, 0), 0);
        edge.is("KIND 6, v 9", Lands.with(new ByLot(), 0, 0, 0, 0, 0, 0, 0, 0, 0, 0).holder(6, 9), 5);
        edge.says("Promise 8", "NONE: kind;");
        for (int kind : new int[] {-1, 7, LEAST, MOST}) {
            edge.stays("holder(" + kind + ", 0)", Lands::busy, x -> x.holder(kind, 0), -1);
            edge.is("holder(" + kind + ", 10): named first", new ByLot().holder(kind, 10), -1);
        }
        edge.stays("holder(7, 10) of 6: named first", Lands::full, x -> x.holder(7, 10), -1);
        edge.says("Promise 8", "BAD: v;");
        for (int v : new int[] {-1, 10, LEAST, MOST}) {
            edge.stays("holder(0, " + v + ")", Lands::busy, x -> x.holder(0, v), -2);
        }
        edge.stays("holder(0, 10) of 6: named first", Lands::full, x -> x.holder(0, 10), -2);
        ByLot y = new ByLot();
        y.holder(7, 0);
        y.holder(0, 10);
        edge.is("the next one's number", y.holder(0, 0), 0);
        edge.says("Promise 8", "FULL: 6.");
        edge.is("a sixth is not", Lands.with(new ByLot(), 1, 1, 1, 1, 1, 1, 1, 1, 1, 1).holder(1, 1), 5);
        edge.stays("a seventh", Lands::full, x -> x.holder(0, 0), -4);
    }

    private void kinds() {
        edge.says("Terms 2", "HOLDERS are of KINDS: 0 HOLDER; 1 PLAIN, 2 POOR under HOLDER; 3 LONG, 4 PAID, 5 SWAP under PLAIN;"
            + " 6 TOLD under POOR;");
        String[] under = {"0", "10", "20", "310", "410", "510", "620"};
        for (int kind = 0; kind < 7; kind++) {
            ByLot x = Lands.with(new ByLot(), kind, 0);
            for (int as = 0; as < 7; as++) {
                edge.is("KIND " + kind + " for " + as, x.taken(0, as), under[kind].indexOf('0' + as) >= 0 ? kind : -12);
            }
        }
        edge.says("Terms 2", "with a number v (0 .. 9).");
        for (int v = 0; v <= 9; v++) {
            edge.is("v " + v, Lands.with(new ByLot(), 3, v).has(0, 1), v);
        }
        edge.is("v -1", new ByLot().holder(3, -1), -2);
        edge.is("v 10", new ByLot().holder(3, 10), -2);
    }

    private void has() {
        edge.says("Promise 9", "Of a HOLDER what 0 KIND, 1 v, 2 its HOLDING (-5), 3 its PURSE.");
        ByLot x = Lands.with(Lands.of("bring 4 s>0", 8), 6, 9, 0, 0);
        x.go(2);
        int[] first = {6, 9, 0, 8};
        int[] second = {0, 0, -5, 0};
        for (int what = 0; what < 4; what++) {
            edge.is("has(0, " + what + ")", x.has(0, what), first[what]);
            edge.is("has(1, " + what + ")", x.has(1, what), second[what]);
        }
        edge.is("HOLDER 5's HOLDING", Lands.full().has(5, 2), 5);
        edge.says("Promise 9", "-100001: NONE.");
        for (int k : new int[] {-1, 5, 6, LEAST, MOST}) {
            for (int what = 0; what < 4; what++) {
                edge.is("has(" + k + ", " + what + ")", Lands.busy().has(k, what), -100001);
            }
        }
        for (int what : new int[] {-1, 4, LEAST, MOST}) {
            edge.stays("has(0, " + what + ")", Lands::busy, y -> y.has(0, what), -100001);
        }
        edge.is("HOLDER 4 is there", Lands.busy().has(4, 0), 3);
        edge.is("has(6, 0) of 6", Lands.full().has(6, 0), -100001);
    }
}
