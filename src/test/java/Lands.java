/** Objects to begin with, and all that can be seen of one. */
final class Lands {
    private Lands() {
    }

    /** HOLDINGS with these STATES, and the VALLEY, if its text is not empty. */
    static ByLot of(String valley, int... states) {
        ByLot x = new ByLot();
        for (int state : states) {
            x.holding(state);
        }
        if (!valley.isEmpty()) {
            valley(x, valley);
        }
        return x;
    }

    /** HOLDERS come: a KIND and a v for each. */
    static ByLot with(ByLot x, int... kindsAndVs) {
        for (int n = 0; n < kindsAndVs.length; n += 2) {
            x.holder(kindsAndVs[n], kindsAndVs[n + 1]);
        }
        return x;
    }

    static int valley(ByLot x, String text) {
        feed(x, text);
        return x.valley();
    }

    /** Four bytes a call: objects are used for 512 calls at most. */
    static void feed(ByLot x, String text) {
        for (int from = 0; from < text.length(); from += 4) {
            int n = Math.min(4, text.length() - from);
            int bytes = 0;
            for (int i = 0; i < n; i++) {
                bytes = bytes << 8 | text.charAt(from + i);
            }
            x.feed(bytes, n);
        }
    }

    static void lots(ByLot x, int... holdings) {
        for (int h : holdings) {
            x.lot(h);
        }
    }

    static void books(ByLot x, int... years) {
        for (int m : years) {
            x.book(m);
        }
    }

    static ByLot bytes(ByLot x, int tape, int... items) {
        x.tape(tape, 0, items.length);
        for (int i = 0; i < items.length; i++) {
            x.item(tape, i, items[i]);
        }
        return x;
    }

    /** Something of all, and an image that is otherwise. */
    static ByLot busy() {
        ByLot x = with(of("fall 1 s>0;bring 5 s>4;cost 2 s<9;pay 3;keep 7", 4, 9, 0, 6), 1, 0, 6, 5, 2, 9, 4, 3, 3, 2);
        x.row(1, 9, 2);
        x.row(1, 4, 1);
        x.set(0, 5);
        x.go(2);
        lots(x, 2, 0);
        books(x, 1, 2);
        x.image();
        x.lot(3);
        x.book(0);
        x.go(1);
        x.set(1, 1);
        feed(x, "keep 4");
        bytes(x, 0, 7, -1, 5);
        x.tape(1, 3, 2);
        x.item(1, 1, Long.MIN_VALUE + 1);
        x.tape(2, 0, 0);
        x.act(1, 2, 5);
        return x;
    }

    /** All that can be full is full; nothing fell yet. */
    static ByLot full() {
        ByLot x = with(of("", 1, 2, 3, 4, 5, 6), 1, 0, 2, 1, 3, 2, 4, 3, 5, 4, 6, 5);
        for (int n = 0; n < 5; n++) {
            valley(x, "pay " + n);
        }
        feed(x, "pay 9");
        for (int n = 0; n < 23; n++) {
            x.feed(0x20202020, 4);
        }
        x.feed(0, 3);
        lots(x, 5, 4, 3, 2, 1, 0);
        books(x, 0, 1, 2, 0, 1, 2, 0, 1, 2, 0, 1, 2);
        return x;
    }

    /** All that can be seen, in some 260 calls; the object is of no use behind them. */
    static String seen(ByLot x) {
        StringBuilder all = new StringBuilder();
        counts(x, all);
        for (int k = 0; k < 6; k++) {
            note(all, x.mends(k), x.looked(k, 0), x.worth(k, 1, 2), x.told(5, 3, k, k, k % 5));
            for (int left = 1; left < 10; left++) {
                note(all, x.row(k, left, -1));
            }
            for (int i = 0; i < 3; i++) {
                note(all, x.read(k, i));
            }
        }
        for (int i = 0; i < 20; i++) {
            note(all, x.trace(i));
        }
        note(all, x.set(0, 9), x.valley());
        for (int h = 0; h < 6; h++) {
            note(all, x.lot(h));
        }
        note(all, x.undo());
        counts(x, all);
        return all.toString();
    }

    private static void counts(ByLot x, StringBuilder all) {
        for (int what = 0; what < 9; what++) {
            note(all, x.count(what));
        }
        for (int n = 0; n < 6; n++) {
            note(all, x.of(n, 0), x.of(n, 1), x.has(n, 0), x.has(n, 1), x.has(n, 2), x.has(n, 3));
        }
    }

    private static void note(StringBuilder all, long... answers) {
        for (long answer : answers) {
            all.append(answer).append(' ');
        }
        all.append('/');
    }
}
