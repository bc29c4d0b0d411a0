import java.util.Random;

/** Runs of calls, ordinary and wrong, answered by ByLot and by the Model; the seeds are fixed. */
public final class ModelTest {
    private static final int RUNS = 400;
    private static final int CALLS = 300;
    private static final Due due = new Due();

    private final Random random;
    private final ByLot x = new ByLot();
    private final Model y = new Model();
    private final String run;

    private ModelTest(int seed) {
        random = new Random(seed);
        run = "run " + seed + ": ";
    }

    public static void main(String[] args) {
        for (int seed = 0; seed < RUNS; seed++) {
            new ModelTest(seed).goThrough();
        }
        due.end("ModelTest");
    }

    private void goThrough() {
        if (random.nextBoolean()) {
            for (int n = random.nextInt(7); n > 0; n--) {
                holding();
            }
            for (int n = random.nextInt(7); n > 0; n--) {
                holder();
            }
            valley();
        }
        for (int n = 0; n < CALLS; n++) {
            switch (random.nextInt(8)) {
                case 0 -> change();
                case 1 -> hand();
                case 2, 3 -> look();
                case 4, 5 -> ask();
                case 6 -> rest();
                default -> tapes();
            }
        }
    }

    /** Mostly from least to most, now and then one beyond, seldom far off. */
    private int near(int least, int most) {
        if (random.nextInt(200) == 0) {
            return random.nextInt();
        }
        if (random.nextInt(12) == 0) {
            return random.nextBoolean() ? least - 1 : most + 1;
        }
        return least + random.nextInt(most - least + 1);
    }

    private void is(String call, long got, long want) {
        due.is(run + call, got, want);
    }

    private void holding() {
        int s = near(0, 9);
        is("holding(" + s + ")", x.holding(s), y.holding(s));
    }

    private void holder() {
        int kind = near(0, 6);
        int v = near(0, 9);
        is("holder(" + kind + ", " + v + ")", x.holder(kind, v), y.holder(kind, v));
    }

    private void feed(String text) {
        for (int i = 0; i < text.length(); i++) {
            is("feed", x.feed(text.charAt(i), 1), y.feed(text.charAt(i), 1));
        }
    }

    private void valley() {
        feed(random.nextInt(5) == 0 ? "keep 9;fal" : Texts.valley(random));
        is("valley()", x.valley(), y.valley());
    }

    private void change() {
        switch (random.nextInt(9)) {
            case 0 -> holding();
            case 1 -> holder();
            case 2 -> {
                if (random.nextInt(4) == 0) {
                    valley();
                }
            }
            case 3, 4 -> {
                int what = near(0, 1);
                int n = near(1, 9);
                is("set(" + what + ", " + n + ")", x.set(what, n), y.set(what, n));
            }
            case 5 -> is("image()", x.image(), y.image());
            case 6 -> {
                if (random.nextInt(3) == 0) {
                    is("undo()", x.undo(), y.undo());
                }
            }
            default -> {
                int n = random.nextInt(3) == 0 ? near(1, 36) : 1 + random.nextInt(3);
                is("go(" + n + ")", x.go(n), y.go(n));
            }
        }
    }

    private void hand() {
        switch (random.nextInt(4)) {
            case 0 -> {
                int h = near(-1, 5);
                is("lot(" + h + ")", x.lot(h), y.lot(h));
            }
            case 1 -> {
                // A whole row, so that lots are drawn.
                x.lot(-1);
                y.lot(-1);
                int turn = random.nextInt(6);
                int all = Math.max(1, y.count(0));
                for (int n = 0; n < all; n++) {
                    int h = (n * (all == 5 ? 2 : 1) + turn) % all;
                    is("lot(" + h + ")", x.lot(h), y.lot(h));
                }
            }
            case 2 -> {
                int m = random.nextInt(20) == 0 ? near(-1, 2) : near(0, 2);
                if (random.nextBoolean() && y.count(1) > 0) {
                    // What a holder would do first, so that a book is not wrong at once.
                    m = Math.max(0, y.would(random.nextInt(y.count(1)), 0, y.count(4)));
                }
                is("book(" + m + ")", x.book(m), y.book(m));
            }
            default -> {
                int k = near(0, 5);
                int left = near(1, 9);
                int m = near(-1, 2);
                is("row(" + k + ", " + left + ", " + m + ")", x.row(k, left, m), y.row(k, left, m));
            }
        }
    }

    private void look() {
        int h = near(0, 5);
        int k = near(0, 5);
        int left = near(1, 9);
        String what = "(" + k + ", " + h + ", " + left + ")";
        switch (random.nextInt(8)) {
            case 0 -> is("of", x.of(h, left - 1), y.of(h, left - 1));
            case 1 -> {
                for (int n = 0; n < 4; n++) {
                    is("has(" + k + ", " + n + ")", x.has(k, n), y.has(k, n));
                }
            }
            case 2 -> is("mends(" + k + ")", x.mends(k), y.mends(k));
            case 3 -> is("would" + what, x.would(k, h, left), y.would(k, h, left));
            case 4 -> is("worth" + what, x.worth(k, h, left), y.worth(k, h, left));
            case 5 -> {
                int n = near(0, 8);
                is("count(" + n + ")", x.count(n), y.count(n));
            }
            case 6 -> {
                for (int n = 0; n < 6; n++) {
                    is("of(" + n + ", 0)", x.of(n, 0), y.of(n, 0));
                    is("of(" + n + ", 1)", x.of(n, 1), y.of(n, 1));
                }
            }
            default -> {
                int s = near(0, 9);
                int l = near(1, 18);
                int n = near(0, 4);
                is("told", x.told(s, l, h, k, n), y.told(s, l, h, k, n));
            }
        }
    }

    private void ask() {
        int k = near(0, 5);
        switch (random.nextInt(10)) {
            case 0 -> {
                is("expect(" + k + ", 0)", x.expect(k, 0), y.expect(k, 0));
                is("expect(" + k + ", 1)", x.expect(k, 1), y.expect(k, 1));
            }
            case 1 -> is("ever()", x.ever(), y.ever());
            case 2 -> {
                int what = near(0, 1);
                is("rounds(" + what + ")", x.rounds(what), y.rounds(what));
            }
            case 3 -> is("pay()", x.pay(), y.pay());
            case 4 -> is("keep()", x.keep(), y.keep());
            case 5 -> is("swaps()", x.swaps(), y.swaps());
            case 6 -> {
                int n = near(1, 36);
                is("alike(" + n + ")", x.alike(n), y.alike(n));
            }
            case 7 -> {
                int n = near(-1, 5);
                is("best(" + n + ")", x.best(n), y.best(n));
            }
            default -> {
                int h = near(0, 5);
                is("looked(" + k + ", " + h + ")", x.looked(k, h), y.looked(k, h));
            }
        }
    }

    private void rest() {
        int k = near(0, 5);
        switch (random.nextInt(3)) {
            case 0 -> {
                int act = near(0, 2);
                int n = random.nextBoolean() ? random.nextInt() : near(-9, 9);
                is("act(" + k + ", " + act + ", " + n + ")", x.act(k, act, n), y.act(k, act, n));
                for (int i = -1; i < 21; i++) {
                    is("trace(" + i + ")", x.trace(i), y.trace(i));
                }
                is("count(8)", x.count(8), y.count(8));
            }
            case 1 -> {
                int kind = near(0, 6);
                is("taken(" + k + ", " + kind + ")", x.taken(k, kind), y.taken(k, kind));
            }
            default -> {
                int t = near(0, 5);
                int n = near(0, 36);
                is("tape", x.tape(t, 0, 12), y.tape(t, 0, 12));
                for (int i = 0; i < 6; i++) {
                    int s = Math.max(0, y.of(i, 0));
                    is("item", x.item(t, i + 2, s), y.item(t, i + 2, s));
                }
                int i = random.nextInt(4) == 0 ? near(0, 12) : 2;
                is("judge(" + t + ", " + i + ", " + n + ")", x.judge(t, i, n), y.judge(t, i, n));
                is("judge(" + t + ", 2, 0)", x.judge(t, 2, 0), y.judge(t, 2, 0));
            }
        }
    }

    private void tapes() {
        int t = near(0, 5);
        int i = near(0, 9);
        switch (random.nextInt(5)) {
            case 0 -> {
                int sort = random.nextInt(3) == 0 ? near(-1, 4) : 2;
                int n = random.nextInt(4) == 0 ? near(0, 60) : 10;
                is("tape(" + t + ", " + sort + ", " + n + ")", x.tape(t, sort, n), y.tape(t, sort, n));
            }
            case 1 -> {
                long v = random.nextLong() >> random.nextInt(64);
                is("item(" + t + ", " + i + ", " + v + ")", x.item(t, i, v), y.item(t, i, v));
            }
            case 2 -> {
                int n = near(0, 36);
                is("judge(" + t + ", " + i + ", " + n + ")", x.judge(t, i, n), y.judge(t, i, n));
            }
            case 3 -> {
                int u = near(0, 5);
                int j = near(0, 9);
                int n = near(0, 5);
                is("shift", x.shift(t, i, u, j, n), y.shift(t, i, u, j, n));
            }
            default -> {
                for (int n = -1; n < 12; n++) {
                    is("read(" + t + ", " + n + ")", x.read(t, n), y.read(t, n));
                }
            }
        }
    }
}
