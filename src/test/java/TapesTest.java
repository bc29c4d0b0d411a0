/** Promises 33 to 36: tapes and the host's refusals. */
public final class TapesTest {
    private static final Due due = new Due();

    public static void main(String[] args) {
        tape();
        item();
        read();
        shift();
        shiftRefused();
        due.end("TapesTest");
    }

    private static void tape() {
        ByLot x = new ByLot();
        due.is("tape 6", x.tape(6, 0, 1), -1);
        due.is("tape -1", x.tape(-1, 5, 61), -1);
        due.is("sort 5", x.tape(0, 5, 1), -2);
        due.is("sort -2", x.tape(0, -2, 1), -2);
        due.is("n 61", x.tape(0, 0, 61), -2);
        due.is("n -1", x.tape(0, 0, -1), -14);
        due.is("BAD ahead of SIZE", x.tape(0, 5, -1), -2);
        due.is("n 0", x.tape(0, 0, 0), 1);
        due.is("no item", x.read(0, 0), ByLot.NO);
        due.is("n 60", x.tape(0, 3, 60), 1);
        x.item(0, 59, 8);
        due.is("the last item", x.read(0, 59), 8);
        due.is("refused", x.tape(0, 0, 61), -2);
        due.is("it stays", x.read(0, 59), 8);
        x.tape(0, 3, 60);
        due.is("all 0", x.read(0, 59), 0);
        due.is("nothing, whatever n is", x.tape(0, -1, -7), 1);
        due.is("nothing there", x.read(0, 0), ByLot.NO);
        due.is("nothing, whatever n is", x.tape(0, -1, 99), 1);
    }

    private static void item() {
        ByLot x = new ByLot();
        long v = 0x123456789abcdef0L;
        long[] want = {(byte) v, (short) v, (int) v, v, 1};
        due.is("no tape", x.item(6, 0, 1), -1);
        due.is("no tape", x.item(-1, -1, 1), -1);
        due.is("nothing", x.item(0, -1, 1), -11);
        for (int sort = 0; sort < 5; sort++) {
            x.tape(sort, sort, 2);
            due.is("sort " + sort, x.item(sort, 1, v), 1);
            due.is("item of sort " + sort, x.read(sort, 1), want[sort]);
            due.is("0 of sort " + sort, x.item(sort, 1, 0), 1);
            due.is("0 of sort " + sort, x.read(sort, 1), 0);
            due.is("place 2", x.item(sort, 2, v), -13);
            due.is("place -1", x.item(sort, -1, v), -13);
        }
        x.item(4, 0, 256);
        due.is("256 is not 0", x.read(4, 0), 1);
        x.item(4, 0, 1L << 40);
        due.is("2^40 is not 0", x.read(4, 0), 1);
    }

    private static void read() {
        ByLot x = new ByLot();
        x.tape(2, 2, 3);
        due.is("tape 6", x.read(6, 0), ByLot.NO);
        due.is("tape -1", x.read(-1, 0), ByLot.NO);
        due.is("nothing", x.read(0, 0), ByLot.NO);
        due.is("place 3", x.read(2, 3), ByLot.NO);
        due.is("place -1", x.read(2, -1), ByLot.NO);
        due.is("place 2", x.read(2, 2), 0);
    }

    private static void shift() {
        ByLot x = new ByLot();
        x.tape(0, 1, 6);
        x.tape(1, 1, 4);
        for (int i = 0; i < 6; i++) {
            x.item(0, i, i + 1);
        }
        due.is("to another", x.shift(0, 2, 1, 1, 3), 3);
        row(x, 1, 0, 3, 4, 5);
        row(x, 0, 1, 2, 3, 4, 5, 6);
        due.is("up, on itself", x.shift(0, 0, 0, 2, 4), 4);
        row(x, 0, 1, 2, 1, 2, 3, 4);
        due.is("down, on itself", x.shift(0, 1, 0, 0, 5), 5);
        row(x, 0, 2, 1, 2, 3, 4, 4);
        due.is("none, at the ends", x.shift(0, 6, 1, 4, 0), 0);
        due.is("all", x.shift(1, 0, 0, 2, 4), 4);
        row(x, 0, 2, 1, 0, 3, 4, 5);
    }

    private static void row(ByLot x, int tape, long... want) {
        for (int i = 0; i < want.length; i++) {
            due.is("item " + i + " of tape " + tape, x.read(tape, i), want[i]);
        }
    }

    private static void shiftRefused() {
        ByLot x = new ByLot();
        x.tape(0, 1, 6);
        x.tape(1, 1, 4);
        x.tape(2, 2, 4);
        due.is("no tape", x.shift(6, 0, 3, 0, -1), -1);
        due.is("no tape", x.shift(3, 0, 6, 0, -1), -1);
        due.is("nothing", x.shift(0, 0, 3, 0, -1), -11);
        due.is("nothing", x.shift(3, 0, 0, 0, -1), -11);
        due.is("unlike", x.shift(0, 0, 2, 0, -1), -12);
        due.is("n below 0", x.shift(0, 0, 1, 0, -1), -13);
        due.is("i below 0", x.shift(0, -1, 1, 0, 0), -13);
        due.is("j below 0", x.shift(0, 0, 1, -1, 0), -13);
        due.is("beyond the first's end", x.shift(0, 4, 1, 0, 3), -13);
        due.is("beyond the other's end", x.shift(0, 0, 1, 2, 3), -13);
        due.is("none, beyond the end", x.shift(0, 7, 1, 0, 0), -13);
        due.is("none, beyond the other's end", x.shift(0, 0, 1, 5, 0), -13);
        int most = Integer.MAX_VALUE;
        due.is("far beyond", x.shift(0, 1, 1, 1, most), -13);
        due.is("far beyond", x.shift(0, most, 1, 0, 1), -13);
        due.is("far beyond", x.shift(0, 0, 1, most, 1), -13);
    }
}
