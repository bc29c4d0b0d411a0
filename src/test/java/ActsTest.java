/** Promises 29 to 32: acts, the trace, kinds, counts. */
public final class ActsTest {
    private static final Due due = new Due();

    public static void main(String[] args) {
        ByLot x = new ByLot();
        int[] vs = {3, 4, 5, 6, 7, 8};
        for (int k = 0; k < 6; k++) {
            x.holder(k + 1, vs[k]);
        }
        wrong(x);
        // Holder k is of kind k + 1, its number k, its v k + 3.
        act(x, 0, 0, 10, 10, 10);
        act(x, 0, 1, 10, (10 - 3) ^ 6, 20, 11, 10);
        act(x, 0, 2, 10, ((10 - 3) ^ 6) * 2, 12, 20, 11, 10);
        act(x, 1, 0, 10, 31, 30, 10);
        act(x, 1, 1, 10, 31 - 4, 11, 30, 10);
        act(x, 1, 2, 10, (31 - 4) * 2, 12, 11, 30, 10);
        act(x, 2, 0, 10, 12, 10);
        act(x, 2, 1, 10, (12 - 5) ^ 6, 20, 11, 10);
        act(x, 2, 2, 10, ((12 - 5) ^ 6) * 2 + ((1 + 2 - 5) ^ 6), 40, 12, 20, 11, 10, 20, 11, 10);
        act(x, 3, 0, 10, -13, 50, 10);
        act(x, 3, 1, 10, (-14 - 6) ^ 6, 51, 20, 11, 50, 10);
        act(x, 3, 2, 10, ((-14 - 6) ^ 6) * 2, 12, 51, 20, 11, 50, 10);
        act(x, 4, 0, 10, 14, 10);
        act(x, 4, 1, 10, (14 - 7) ^ 6, 20, 11, 10);
        act(x, 4, 2, 10, ((6 + 4 - 7) ^ 6) * 2, 60, 12, 20, 11, 10);
        act(x, 5, 0, 10, 35 ^ 8, 71, 30, 10);
        act(x, 5, 1, 10, (35 ^ 8) - 8 + 11, 70, 11, 71, 30, 10, 30, 10);
        act(x, 5, 2, 10, ((35 ^ 8) - 8 + 11) * 2, 12, 70, 11, 71, 30, 10, 30, 10);
        int most = Integer.MAX_VALUE;
        act(x, 1, 0, most, most * 3 + 1, 30, 10);
        act(x, 1, 2, most, (most * 3 + 1 - 4) * 2, 12, 11, 30, 10);
        act(x, 3, 1, most, (-(most + 1 + 3) - 6) ^ 6, 51, 20, 11, 50, 10);
        asHolder();
        taken(x);
        counts();
        due.end("ActsTest");
    }

    private static void act(ByLot x, int holder, int act, int n, int want, int... trace) {
        String call = "act(" + holder + ", " + act + ", " + n + ")";
        due.is(call, x.act(holder, act, n), want);
        due.is(call + " bodies", x.count(8), trace.length);
        for (int i = 0; i < trace.length; i++) {
            due.is(call + " trace(" + i + ")", x.trace(i), trace[i]);
        }
        due.is(call + " no more", x.trace(trace.length), -1);
        due.is(call + " trace(-1)", x.trace(-1), -1);
    }

    private static void wrong(ByLot x) {
        act(x, 0, 0, 1, 1, 10);
        act(x, 6, 0, 1, 0);
        act(x, 0, 0, 1, 1, 10);
        act(x, 0, 3, 1, 0);
        act(x, 0, 0, 1, 1, 10);
        act(x, 0, -1, 1, 0);
        act(x, -1, 0, 1, 0);
    }

    private static void asHolder() {
        ByLot x = new ByLot();
        x.holder(0, 0);
        x.holder(0, 7);
        act(x, 1, 0, 5, 6, 10);
        act(x, 1, 1, 5, -1, 11, 10);
        act(x, 1, 2, 5, -2, 12, 11, 10);
    }

    private static void taken(ByLot x) {
        int[] above = {-1, 0, 0, 1, 1, 1, 2};
        for (int k = 0; k < 6; k++) {
            int kind = k + 1;
            for (int as = 0; as <= 6; as++) {
                boolean under = as == kind || as == above[kind] || as == 0;
                due.is("taken(" + k + ", " + as + ")", x.taken(k, as), under ? kind : -12);
            }
        }
        due.is("k 7", x.taken(0, 7), -2);
        due.is("k -1", x.taken(0, -1), -2);
        due.is("BAD ahead of NOTHING", x.taken(6, 7), -2);
        due.is("no holder", x.taken(6, 0), -11);
        due.is("no holder", x.taken(-1, 0), -11);
    }

    private static void counts() {
        ByLot x = new ByLot();
        x.holding(1);
        x.holding(1);
        x.holder(0, 0);
        x.holder(0, 0);
        x.holder(0, 0);
        Lands.valley(x, "pay 1");
        x.go(4);
        x.lot(1);
        x.book(1);
        x.book(1);
        Lands.feed(x, "fall 1");
        x.act(0, 1, 0);
        int[] want = {2, 3, 1, 4, 5, 1, 2, 6, 2};
        for (int what = 0; what < want.length; what++) {
            due.is("count(" + what + ")", x.count(what), want[what]);
        }
        due.is("count(9)", x.count(9), -2);
        due.is("count(-1)", x.count(-1), -2);
    }
}
