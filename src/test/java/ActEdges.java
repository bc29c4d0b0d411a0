/** Edges of ACTS, THE TRACE, KINDS taken, counts. */
final class ActEdges {
    private static final int MOST = Integer.MAX_VALUE, LEAST = Integer.MIN_VALUE;
    private final Edge edge;

    ActEdges(Edge edge) {
        this.edge = edge;
    }

    void all() {
        acts();
        bodies();
        bodiesOfTwo();
        whichBody();
        order();
        trace();
        act();
        tracePlaces();
        taken();
        count();
    }

    /** HOLDER i is of that KIND, with v; those ahead of it are of KIND 0. */
    private static ByLot at(int i, int kind, int v) {
        ByLot x = new ByLot();
        for (int k = 0; k < i; k++) {
            x.holder(0, 9);
        }
        return Lands.with(x, kind, v);
    }

    private void acts(ByLot x, int i, int act, int n, int want, int... bodies) {
        String call = "act(" + i + ", " + act + ", " + n + ")";
        edge.is(call, x.act(i, act, n), want);
        edge.is(call + " bodies", x.count(8), bodies.length);
        for (int b = 0; b < bodies.length; b++) {
            edge.is(call + " body " + b, x.trace(b), bodies[b]);
        }
        edge.is(call + " no more", x.trace(bodies.length), -1);
    }

    private void acts() {
        edge.says("Terms 3", "ACTS of a HOLDER with x (wrapping): 0 mends, 1 leaves, 2 tells; i its number.");
        acts(at(5, 0, 0), 5, 0, MOST, LEAST + 4, 10);
        acts(at(5, 0, 9), 5, 1, LEAST, MOST - 3, 11, 10);
        acts(at(1, 0, 0), 1, 2, MOST, 0, 12, 11, 10);
        acts(at(0, 0, 0), 0, 2, MOST, -2, 12, 11, 10);
        acts(at(0, 0, 0), 0, 2, 0x40000000, LEAST, 12, 11, 10);
        acts(at(0, 2, 0), 0, 0, 0x60000000, 0x20000000, 30, 10);
        acts(at(0, 4, 0), 0, 0, LEAST, LEAST, 50, 10);
        acts(at(0, 4, 0), 0, 1, MOST, LEAST ^ 6, 51, 20, 11, 50, 10);
        acts(at(5, 5, 0), 5, 2, LEAST, (LEAST ^ 6) * 2, 60, 12, 20, 11, 10);
        acts(at(5, 5, 0), 5, 2, LEAST + 3, ((LEAST + 3) ^ 6) * 2, 60, 12, 20, 11, 10);
        acts(at(0, 6, 9), 0, 0, MOST, (MOST * 3) ^ 9, 71, 30, 10);
    }

    private void bodies() {
        edge.says("Terms 3", "BODIES: HOLDER: 10 mends: x + i. 11 leaves: mends(x) - v. 12 tells: leaves(x) * 2.");
        acts(at(0, 0, 0), 0, 0, 0, 0, 10);
        acts(at(5, 0, 9), 5, 0, 7, 12, 10);
        acts(at(5, 0, 9), 5, 1, 7, 3, 11, 10);
        acts(at(5, 0, 9), 5, 2, 7, 6, 12, 11, 10);
        edge.says("Terms 3", "PLAIN: 20 leaves: super.leaves(x) ^ 6.");
        acts(at(3, 1, 9), 3, 1, 7, 1 ^ 6, 20, 11, 10);
        acts(at(3, 1, 9), 3, 1, 0, -6 ^ 6, 20, 11, 10);
        edge.says("Terms 3", "POOR: 30 mends: super.mends(x * 3).");
        acts(at(3, 2, 9), 3, 0, 7, 24, 30, 10);
        acts(at(3, 2, 9), 3, 0, -7, -18, 30, 10);
        edge.says("Terms 3", "LONG: 40 tells: super.tells(x) + leaves(1).");
        acts(at(3, 3, 9), 3, 2, 7, (1 ^ 6) * 2 + (-5 ^ 6), 40, 12, 20, 11, 10, 20, 11, 10);
    }

    private void bodiesOfTwo() {
        edge.says("Terms 3", "PAID: 50 mends: -super.mends(x). 51 leaves: super.leaves(x + 1).");
        acts(at(3, 4, 9), 3, 0, 7, -10, 50, 10);
        acts(at(3, 4, 9), 3, 1, 7, (-11 - 9) ^ 6, 51, 20, 11, 50, 10);
        edge.says("Terms 3", "SWAP: 60 tells: super.tells(x - i).");
        acts(at(3, 5, 9), 3, 2, 7, ((7 - 9) ^ 6) * 2, 60, 12, 20, 11, 10);
        edge.says("Terms 3", "TOLD: 70 leaves: super.leaves(x) + super.mends(2). 71 mends: super.mends(x) ^ v.");
        acts(at(3, 6, 9), 3, 0, 7, 24 ^ 9, 71, 30, 10);
        acts(at(3, 6, 9), 3, 1, 7, (24 ^ 9) - 9 + 9, 70, 11, 71, 30, 10, 30, 10);
        acts(at(0, 6, 0), 0, 1, 0, 6, 70, 11, 71, 30, 10, 30, 10);
    }

    private void whichBody() {
        edge.says("Terms 3", "mends(..) and so on: the body of its KIND, or, if that has none, of the next KIND above that has one;");
        acts(at(0, 1, 5), 0, 0, 2, 2, 10);
        acts(at(0, 3, 5), 0, 0, 2, 2, 10);
        acts(at(0, 5, 5), 0, 0, 2, 2, 10);
        acts(at(0, 2, 5), 0, 1, 2, 1, 11, 30, 10);
        acts(at(0, 3, 5), 0, 1, 2, -3 ^ 6, 20, 11, 10);
        acts(at(0, 5, 5), 0, 1, 2, -3 ^ 6, 20, 11, 10);
        acts(at(0, 1, 5), 0, 2, 2, (-3 ^ 6) * 2, 12, 20, 11, 10);
        acts(at(0, 2, 5), 0, 2, 2, 2, 12, 11, 30, 10);
        acts(at(0, 4, 5), 0, 2, 2, ((-3 - 5) ^ 6) * 2, 12, 51, 20, 11, 50, 10);
        acts(at(0, 6, 5), 0, 2, 2, ((6 ^ 5) - 5 + 6) * 2, 12, 70, 11, 71, 30, 10, 30, 10);
        edge.says("Terms 3", "super.mends(..): so from the KIND above the body's on;");
        acts(at(0, 6, 3), 0, 0, 1, 3 ^ 3, 71, 30, 10);
        acts(at(0, 4, 3), 0, 0, 1, -1, 50, 10);
        acts(at(0, 6, 3), 0, 1, 1, (3 ^ 3) - 3 + 6, 70, 11, 71, 30, 10, 30, 10);
    }

    private void order() {
        edge.says("Terms 3", "all that stands in a body is done from the left on.");
        acts(at(0, 3, 0), 0, 2, 0, (0 ^ 6) * 2 + (1 ^ 6), 40, 12, 20, 11, 10, 20, 11, 10);
        acts(at(0, 6, 1), 0, 1, 4, (12 ^ 1) - 1 + 6, 70, 11, 71, 30, 10, 30, 10);
    }

    private void trace() {
        edge.says("Terms 3", "THE TRACE: the numbers of the bodies that ran in the latest act(), as they began;"
            + " the first 20 are kept.");
        // No act has more than eight bodies.
        ByLot x = at(0, 6, 0);
        acts(x, 0, 2, 0, 12, 12, 70, 11, 71, 30, 10, 30, 10);
        acts(x, 0, 0, 0, 0, 71, 30, 10);
        for (int i = 3; i <= 20; i++) {
            edge.is("no body " + i, x.trace(i), -1);
        }
    }

    private void act() {
        edge.says("Promise 29", "An ACT (0 mends, 1 leaves, 2 tells) of a HOLDER with x.");
        int[] wants = {-26, -31, -62};
        for (int act = 0; act < 3; act++) {
            edge.is("act(1, " + act + ", -9)", at(1, 2, 5).act(1, act, -9), wants[act]);
        }
        edge.says("Promise 29", "0, and no TRACE then: no such HOLDER, act.");
        for (int n : new int[] {-1, 5, 6, LEAST, MOST}) {
            ByLot x = Lands.busy();
            edge.is("a TRACE", x.count(8), 8);
            acts(x, n, 0, 7, 0);
            edge.is("no HOLDINGS came", x.count(0), 4);
        }
        for (int act : new int[] {-1, 3, LEAST, MOST}) {
            acts(Lands.busy(), 0, act, 7, 0);
            acts(Lands.busy(), 1, act, 7, 0);
        }
        acts(new ByLot(), 0, 0, 7, 0);
        ByLot x = Lands.busy();
        acts(x, 9, 9, 9, 0);
        acts(x, 0, 0, 9, 9, 10);
    }

    private void tracePlaces() {
        edge.says("Promise 30", "THE TRACE's i-th body.");
        ByLot x = at(0, 6, 0);
        x.act(0, 1, 0);
        edge.is("trace(0)", x.trace(0), 70);
        edge.is("trace(6)", x.trace(6), 10);
        edge.says("Promise 30", "NONE.");
        edge.is("trace(7) of seven", x.trace(7), -1);
        for (int i : new int[] {-1, 8, 19, 20, 21, LEAST, MOST}) {
            edge.is("trace(" + i + ")", x.trace(i), -1);
            edge.stays("trace(" + i + ") of eight", Lands::busy, y -> y.trace(i), -1);
        }
        edge.is("no act yet", new ByLot().trace(0), -1);
    }

    private void taken() {
        edge.says("Promise 31", "A HOLDER taken for one of KIND k (0 .. 6), or one under that: its KIND.");
        for (int kind = 0; kind < 7; kind++) {
            edge.is(kind + " for 0", at(5, kind, 0).taken(5, 0), kind);
            edge.is(kind + " for itself", at(5, kind, 0).taken(5, kind), kind);
        }
        for (int kind = 3; kind < 6; kind++) {
            edge.is(kind + " for PLAIN", at(0, kind, 0).taken(0, 1), kind);
        }
        edge.is("TOLD for POOR", at(0, 6, 0).taken(0, 2), 6);
        edge.says("Promise 31", "BAD: k;");
        for (int k : new int[] {-1, 7, LEAST, MOST}) {
            edge.stays("k " + k, Lands::busy, x -> x.taken(0, k), -2);
            edge.is("k " + k + ", no HOLDER: named first", new ByLot().taken(0, k), -2);
        }
        edge.says("Promise 31", "NOTHING: no such HOLDER;");
        for (int n : new int[] {-1, 5, 6, LEAST, MOST}) {
            edge.stays("HOLDER " + n, Lands::busy, x -> x.taken(n, 0), -11);
            edge.is("HOLDER " + n + " for 6", Lands.busy().taken(n, 6), -11);
        }
        edge.says("Promise 31", "CAST.");
        int[][] unlike = {{0, 1}, {0, 6}, {1, 2}, {1, 3}, {2, 1}, {2, 6}, {3, 2}, {3, 4}, {4, 5}, {5, 6}, {6, 1}, {6, 5}};
        for (int[] u : unlike) {
            edge.stays(u[0] + " for " + u[1], () -> at(2, u[0], 3), x -> x.taken(2, u[1]), -12);
        }
    }

    private void count() {
        edge.says("Promise 32", "How many: 0 HOLDINGS, 1 HOLDERS, 2 VALLEYS, 3 which YEAR it is, 4 years LEFT,"
            + " 5 of the LOT told by hand, 6 years of the BOOK, 7 bytes of THE TEXT,"
            + " 8 bodies that ran in the latest act() (all, kept or not).");
        counts("at first", new ByLot(), 0, 0, 0, 0, 9, 0, 0, 0, 0);
        counts("of all something", Lands.busy(), 4, 5, 1, 3, 1, 3, 3, 6, 8);
        counts("all is full", Lands.full(), 6, 6, 5, 0, 9, 6, 12, 100, 0);
        edge.says("Promise 32", "BAD.");
        for (int what : new int[] {-1, 9, LEAST, MOST}) {
            edge.stays("count(" + what + ")", Lands::busy, x -> x.count(what), -2);
        }
    }

    private void counts(String which, ByLot x, int... want) {
        for (int what = 0; what < want.length; what++) {
            edge.is(which + ", count(" + what + ")", x.count(what), want[what]);
        }
    }
}
