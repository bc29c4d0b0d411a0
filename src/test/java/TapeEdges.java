import java.util.function.Supplier;

/** Edges of TAPES, and of the answers that the host and all calls have in common. */
final class TapeEdges {
    private static final int MOST = Integer.MAX_VALUE, LEAST = Integer.MIN_VALUE;
    private final Edge edge;

    TapeEdges(Edge edge) {
        this.edge = edge;
    }

    void all() {
        tapes();
        refusals();
        tape();
        tapeRefused();
        item();
        itemRefused();
        read();
        shift();
        shiftOfOne();
        shiftRefused();
        shiftPlaces();
        answers();
        constants();
    }

    /** A TAPE 2 of a sort with these items. */
    private static ByLot of(int sort, long... items) {
        ByLot x = new ByLot();
        put(x, 2, sort, items);
        return x;
    }

    private static void put(ByLot x, int tape, int sort, long... items) {
        x.tape(tape, sort, items.length);
        for (int i = 0; i < items.length; i++) {
            x.item(tape, i, items[i]);
        }
    }

    private void row(ByLot x, int tape, long... want) {
        for (int i = 0; i < want.length; i++) {
            edge.is("item " + i + " of TAPE " + tape, x.read(tape, i), want[i]);
        }
        edge.is("no item " + want.length, x.read(tape, want.length), Long.MIN_VALUE);
    }

    private void tapes() {
        edge.says("Terms 4", "TAPES 0 .. 5 hold nothing (at first), or a row of 0 bytes, 1 shorts, 2 ints, 3 longs,"
            + " 4 booleans (items 0, 1).");
        for (int tape = 0; tape < 6; tape++) {
            ByLot x = new ByLot();
            edge.is("nothing at first", x.item(tape, 0, 1), -11);
            edge.is("a row", x.tape(tape, 3, 1), 1);
            edge.is("an item", x.item(tape, 0, MOST + 1L), 1);
            row(x, tape, MOST + 1L);
        }
        row(of(0, 127, 128, -128, -129, 255, 256), 2, 127, -128, -128, 127, -1, 0);
        row(of(1, 32767, 32768, -32768, -32769, 65535, 65536), 2, 32767, -32768, -32768, 32767, -1, 0);
        row(of(2, MOST, MOST + 1L, LEAST, LEAST - 1L, 1L << 32), 2, MOST, LEAST, LEAST, MOST, 0);
        row(of(3, Long.MAX_VALUE, Long.MIN_VALUE, -1), 2, Long.MAX_VALUE, Long.MIN_VALUE, -1);
        row(of(4, 0, 1, -1, 2, 256, 1L << 32, Long.MIN_VALUE), 2, 0, 1, 1, 1, 1, 1, 1);
    }

    private void refusals() {
        edge.says("Terms 4", "The host's refusals: NOTHING (-11): nothing is there; CAST (-12): another sort or KIND;"
            + " PLACE (-13): no such place; SIZE (-14): a size below 0.");
        ByLot x = Lands.with(of(2, 7), 0, 0);
        x.tape(0, 3, 1);
        edge.is("NOTHING", x.item(1, 0, 1), -11);
        edge.is("NOTHING, a HOLDER", x.taken(1, 0), -11);
        edge.is("CAST, a sort", x.shift(0, 0, 2, 0, 1), -12);
        edge.is("CAST, a KIND", x.taken(0, 1), -12);
        edge.is("PLACE", x.item(2, 1, 1), -13);
        edge.is("SIZE", x.tape(2, 0, -1), -14);
        row(x, 2, 7);
    }

    private void tape() {
        edge.says("Promise 33", "A TAPE becomes a row of n (0 .. 60) of a sort, all 0,");
        for (int sort = 0; sort < 5; sort++) {
            ByLot x = of(3, -1, -1, -1);
            edge.is("a row of 60", x.tape(2, sort, 60), 1);
            long all = 0;
            for (int i = 0; i < 60; i++) {
                all |= x.read(2, i);
            }
            edge.is("all 0", all, 0);
            edge.is("the last", x.item(2, 59, 1), 1);
            edge.is("no more", x.item(2, 60, 1), -13);
            edge.is("the same anew", x.tape(2, sort, 60), 1);
            edge.is("all 0", x.read(2, 59), 0);
            edge.is("a row of 1", x.tape(2, sort, 1), 1);
            row(x, 2, 0);
            edge.is("a row of 0", x.tape(2, sort, 0), 1);
            edge.is("something is there", x.item(2, 0, 1), -13);
        }
        edge.says("Promise 33", "or holds nothing (sort -1: n does not matter): 1.");
        for (int n : new int[] {0, 1, 60, 61, -1, LEAST, MOST}) {
            ByLot x = of(0, 1, 2);
            edge.is("tape(2, -1, " + n + ")", x.tape(2, -1, n), 1);
            edge.is("nothing is there", x.item(2, 0, 1), -11);
            edge.is("still nothing", x.tape(2, -1, n), 1);
        }
    }

    private void tapeRefused() {
        edge.says("Promise 33", "NONE: tape;");
        for (int tape : new int[] {-1, 6, LEAST, MOST}) {
            edge.stays("tape(" + tape + ", 0, 1)", Lands::busy, x -> x.tape(tape, 0, 1), -1);
            edge.is("sort 5: named first", new ByLot().tape(tape, 5, 1), -1);
            edge.is("n -1: named first", new ByLot().tape(tape, 0, -1), -1);
            edge.is("sort -1", new ByLot().tape(tape, -1, 1), -1);
        }
        edge.says("Promise 33", "BAD: sort, n above 60;");
        for (int sort : new int[] {-2, 5, LEAST, MOST}) {
            edge.stays("sort " + sort, Lands::busy, x -> x.tape(0, sort, 1), -2);
            edge.is("sort " + sort + ", n -1: named first", new ByLot().tape(0, sort, -1), -2);
        }
        for (int n : new int[] {61, 100, MOST}) {
            edge.stays("n " + n, Lands::busy, x -> x.tape(0, 3, n), -2);
        }
        edge.says("Promise 33", "SIZE.");
        for (int n : new int[] {-1, -60, LEAST}) {
            for (int sort = 0; sort < 5; sort++) {
                int row = sort;
                edge.stays("sort " + sort + ", n " + n, Lands::busy, x -> x.tape(0, row, n), -14);
            }
        }
    }

    private void item() {
        edge.says("Promise 34", "Item i of a TAPE becomes v (its lowest bits, as many as an item has; booleans: whether v is not 0): 1.");
        long v = 0x8123456789abcdefL;
        long[] want = {(byte) 0xef, (short) 0xcdef, 0x89abcdef, v, 1};
        for (int sort = 0; sort < 5; sort++) {
            ByLot x = of(sort, 0, 1, 0);
            edge.is("the first", x.item(2, 0, v), 1);
            edge.is("the last", x.item(2, 2, v), 1);
            row(x, 2, want[sort], 1, want[sort]);
            edge.is("0", x.item(2, 0, 0), 1);
            row(x, 2, 0, 1, want[sort]);
        }
        row(of(4, 1L << 63, 0x100, 0), 2, 1, 1, 0);
    }

    private void itemRefused() {
        edge.says("Promise 34", "NONE;");
        for (int tape : new int[] {-1, 6, LEAST, MOST}) {
            edge.stays("item(" + tape + ", 0, 1)", Lands::busy, x -> x.item(tape, 0, 1), -1);
            edge.is("item(" + tape + ", -1, 1): named first", Lands.busy().item(tape, -1, 1), -1);
        }
        edge.says("Promise 34", "NOTHING;");
        for (int i : new int[] {0, -1, 60, LEAST, MOST}) {
            edge.stays("item(3, " + i + ", 1)", Lands::busy, x -> x.item(3, i, 1), -11);
        }
        edge.says("Promise 34", "PLACE.");
        for (int i : new int[] {-1, 3, 59, 60, LEAST, MOST}) {
            edge.stays("item(0, " + i + ", 1) of three", Lands::busy, x -> x.item(0, i, 1), -13);
        }
        edge.is("item(2, 0, 1) of none", Lands.busy().item(2, 0, 1), -13);
    }

    private void read() {
        edge.says("Promise 35", "Item i of a TAPE.");
        row(of(0, 1, -2, 3), 2, 1, -2, 3);
        row(of(3, -1), 2, -1);
        row(of(1), 2);
        edge.only("read", Lands::busy, x -> x.read(1, 1));
        edge.says("Promise 35", "NO: no such TAPE, nothing there, no such place.");
        for (int n : new int[] {-1, 6, LEAST, MOST}) {
            edge.stays("TAPE " + n, Lands::busy, x -> x.read(n, 0), Long.MIN_VALUE);
            edge.stays("place " + n, Lands::busy, x -> x.read(0, n), Long.MIN_VALUE);
        }
        edge.is("place 3 of three", Lands.busy().read(0, 3), Long.MIN_VALUE);
        edge.is("place 0 of none", Lands.busy().read(2, 0), Long.MIN_VALUE);
        edge.is("nothing there", Lands.busy().read(3, 0), Long.MIN_VALUE);
        edge.is("nothing there, place -1", Lands.busy().read(3, -1), Long.MIN_VALUE);
        ByLot x = of(0, 1, 2, 3);
        x.tape(2, 0, 2);
        row(x, 2, 0, 0);
        x.tape(2, -1, 3);
        edge.is("nothing there any more", x.read(2, 0), Long.MIN_VALUE);
    }

    private void shift() {
        edge.says("Promise 36", "n items of a TAPE from i on come to another one");
        for (int sort = 0; sort < 5; sort++) {
            ByLot x = of(sort, 1, 0, 1, 1);
            put(x, 5, sort, 0, 1, 0);
            edge.is("none", x.shift(2, 0, 5, 0, 0), 0);
            row(x, 5, 0, 1, 0);
            edge.is("the last to the first", x.shift(2, 3, 5, 0, 1), 1);
            row(x, 5, 1, 1, 0);
            edge.is("three to three", x.shift(2, 0, 5, 0, 3), 3);
            row(x, 5, 1, 0, 1);
            row(x, 2, 1, 0, 1, 1);
            edge.is("three to the end", x.shift(5, 0, 2, 1, 3), 3);
            row(x, 2, 1, 1, 0, 1);
        }
        ByLot x = of(3, Long.MAX_VALUE, Long.MIN_VALUE);
        put(x, 0, 3, 1, 2);
        edge.is("longs", x.shift(2, 0, 0, 0, 2), 2);
        row(x, 0, Long.MAX_VALUE, Long.MIN_VALUE);
        ByLot y = new ByLot();
        y.tape(0, 0, 60);
        y.tape(1, 0, 60);
        y.item(0, 59, 9);
        edge.is("all of 60", y.shift(0, 0, 1, 0, 60), 60);
        edge.is("the last", y.read(1, 59), 9);
        edge.is("the last to the last", y.shift(0, 0, 1, 59, 1), 1);
        edge.is("the last", y.read(1, 59), 0);
    }

    private void shiftOfOne() {
        edge.says("Promise 36", "(or the same) from j on, as they all were before: n.");
        ByLot x = of(2, 1, 2, 3, 4, 5);
        edge.is("upwards", x.shift(2, 0, 2, 1, 4), 4);
        row(x, 2, 1, 1, 2, 3, 4);
        x = of(2, 1, 2, 3, 4, 5);
        edge.is("downwards", x.shift(2, 1, 2, 0, 4), 4);
        row(x, 2, 2, 3, 4, 5, 5);
        x = of(2, 1, 2, 3, 4, 5);
        edge.is("all to where they are", x.shift(2, 0, 2, 0, 5), 5);
        row(x, 2, 1, 2, 3, 4, 5);
        edge.is("none, at the end", x.shift(2, 5, 2, 5, 0), 0);
        row(x, 2, 1, 2, 3, 4, 5);
    }

    private void shiftRefused() {
        edge.says("Promise 36", "NONE: tapes;");
        for (int tape : new int[] {-1, 6, LEAST, MOST}) {
            edge.stays("from " + tape, Lands::busy, x -> x.shift(tape, 0, 0, 0, 1), -1);
            edge.stays("to " + tape, Lands::busy, x -> x.shift(0, 0, tape, 0, 1), -1);
            edge.is("from " + tape + " to nothing: named first", Lands.busy().shift(tape, 0, 3, 0, 1), -1);
            edge.is("from nothing to " + tape + ": named first", Lands.busy().shift(3, 0, tape, 0, -1), -1);
        }
        edge.says("Promise 36", "NOTHING;");
        edge.stays("from nothing", Lands::busy, x -> x.shift(3, 0, 0, 0, 1), -11);
        edge.stays("to nothing", Lands::busy, x -> x.shift(0, 0, 3, 0, 1), -11);
        edge.is("both", Lands.busy().shift(3, 0, 3, 0, 0), -11);
        edge.is("n -1: named first", Lands.busy().shift(0, 0, 3, 0, -1), -11);
        edge.says("Promise 36", "CAST: of unlike sorts;");
        for (int sort = 0; sort < 5; sort++) {
            for (int other = 0; other < 5; other++) {
                ByLot x = of(sort, 1);
                put(x, 0, other, 0);
                edge.is(sort + " to " + other, x.shift(2, 0, 0, 0, 1), sort == other ? 1 : -12);
                edge.is(sort + " to " + other + ", n -1", x.shift(2, 0, 0, 0, -1), sort == other ? -13 : -12);
            }
        }
        edge.stays("bytes to longs", Lands::busy, x -> x.shift(0, 0, 1, 0, 1), -12);
        edge.is("none of them", Lands.busy().shift(0, 0, 1, 0, 0), -12);
    }

    private void shiftPlaces() {
        edge.says("Promise 36", "PLACE: n, i or j is below 0, or beyond either's end.");
        int[][] wrong = {{0, 0, -1}, {-1, 0, 1}, {0, -1, 1}, {-1, 0, 0}, {0, -1, 0}, {0, 0, 4}, {1, 0, 3}, {3, 0, 1}, {4, 0, 0},
            {0, 1, 2}, {0, 2, 1}, {0, 3, 0}, {0, 0, 3}, {0, 0, MOST}, {MOST, 0, 1}, {0, MOST, 1}, {MOST, 0, 0}, {0, MOST, 0},
            {1, 1, MOST}, {MOST, MOST, MOST}, {LEAST, 0, 1}, {0, LEAST, 1}, {0, 0, LEAST}, {LEAST, LEAST, LEAST}};
        Supplier<ByLot> made = () -> {
            ByLot x = Lands.bytes(Lands.busy(), 4, 1, 2);
            return x;
        };
        for (int[] w : wrong) {
            edge.stays("of three from " + w[0] + " to two from " + w[1] + ", n " + w[2], made,
                x -> x.shift(0, w[0], 4, w[1], w[2]), -13);
        }
        edge.is("of two beyond its end", made.get().shift(4, 1, 0, 0, 2), -13);
        edge.is("on itself beyond its end", made.get().shift(0, 0, 0, 1, 3), -13);
        edge.is("of none", made.get().shift(2, 0, 2, 0, 1), -13);
        edge.is("none of none", made.get().shift(2, 0, 2, 0, 0), 0);
        edge.is("none from the end to the end", made.get().shift(0, 3, 4, 2, 0), 0);
        edge.is("two of three to two", made.get().shift(0, 1, 4, 0, 2), 2);
    }

    private void answers() {
        edge.says("Answers", "NONE (-1) no such number; BAD (-2) a number is not as told; STATE (-3) as told; FULL (-4);");
        edge.is("NONE", ByLot.NONE, -1);
        edge.is("BAD", ByLot.BAD, -2);
        edge.is("STATE", ByLot.STATE, -3);
        edge.is("FULL", ByLot.FULL, -4);
        edge.is("NONE answered", new ByLot().of(0, 0), ByLot.NONE);
        edge.is("BAD answered", new ByLot().holding(10), ByLot.BAD);
        edge.is("STATE answered", new ByLot().undo(), ByLot.STATE);
        edge.is("FULL answered", Lands.full().holding(0), ByLot.FULL);
        edge.says("Answers", "the first that a call's words name.");
        edge.is("NONE ahead of BAD", Lands.full().holder(7, 10), -1);
        edge.is("BAD ahead of FULL", Lands.full().holder(6, 10), -2);
        edge.is("BAD ahead of STATE", Lands.full().row(0, 1, 3), -2);
        edge.is("STATE ahead of FULL", Lands.full().lot(0), -3);
        edge.is("FULL ahead of a FAULT", Lands.full().valley(), -4);
        edge.is("NONE ahead of NOTHING", Lands.busy().shift(3, 0, 6, 0, 1), -1);
        edge.is("NOTHING ahead of PLACE", Lands.busy().item(3, 9, 1), -11);
        edge.is("BAD ahead of CAST", Lands.busy().judge(1, 0, 37), -2);
        edge.is("BAD ahead of NOTHING", new ByLot().taken(0, 7), -2);
        edge.says("Answers", "What is answered so changes nothing; what is asked changes nothing.");
        edge.stays("NONE", Lands::full, x -> x.holder(7, 0), -1);
        edge.stays("BAD", Lands::full, x -> x.go(0), -2);
        edge.stays("STATE", Lands::full, ByLot::undo, -3);
        edge.stays("FULL", Lands::full, ByLot::valley, -4);
        edge.only("of", Lands::full, x -> x.of(5, 1));
        edge.only("told", Lands::full, x -> x.told(9, 18, 5, 5, 3));
        edge.only("has", Lands::full, x -> x.has(5, 3));
        edge.only("would", Lands::full, x -> x.would(5, 0, 9));
        edge.only("alike", Lands::full, x -> x.alike(36));
        edge.only("count", Lands::full, x -> x.count(7));
        edge.only("taken", Lands::full, x -> x.taken(5, 2));
    }

    private void constants() {
        edge.says("Constants", "`NO = Long.MIN_VALUE`: There is no such number.");
        edge.is("NO", ByLot.NO, Long.MIN_VALUE);
        edge.is("no such TAPE", new ByLot().read(6, 0), ByLot.NO);
        edge.is("no such HOLDER", new ByLot().expect(0, 0), ByLot.NO);
    }
}
