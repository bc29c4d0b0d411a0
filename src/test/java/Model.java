import java.lang.reflect.Array;
import java.util.ArrayList;
import java.util.HashMap;
import java.util.List;
import java.util.Map;

/** The document once more, slow and plain: rows tried one by one, kinds as classes, the host's own arrays. */
final class Model {
    private static final long NO = Long.MIN_VALUE;

    // ---- the valley

    interface Test {
        boolean holds(int s, int l, int i, int p);
    }

    record Clause(String word, int n, Test e) {
    }

    /** Reads E, which is one, from the place on. */
    private static final class Reader {
        private final String e;
        private int place;

        Reader(String e) {
            this.e = e;
        }

        Test either() {
            Test a = both();
            if (place < e.length() && e.charAt(place) == '|') {
                place++;
                Test b = either();
                return (s, l, i, p) -> a.holds(s, l, i, p) || b.holds(s, l, i, p);
            }
            return a;
        }

        Test both() {
            Test a = single();
            if (place < e.length() && e.charAt(place) == '&') {
                place++;
                Test b = both();
                return (s, l, i, p) -> a.holds(s, l, i, p) && b.holds(s, l, i, p);
            }
            return a;
        }

        Test single() {
            char c = e.charAt(place++);
            if (c == '!') {
                Test a = single();
                return (s, l, i, p) -> !a.holds(s, l, i, p);
            }
            if (c == '(') {
                Test a = either();
                place++;
                return a;
            }
            char relation = e.charAt(place++);
            int from = place;
            while (place < e.length() && Character.isDigit(e.charAt(place))) {
                place++;
            }
            int n = Integer.parseInt(e.substring(from, place));
            return (s, l, i, p) -> {
                int asked = c == 's' ? s : c == 'l' ? l : c == 'i' ? i : p;
                return relation == '<' ? asked < n : relation == '=' ? asked == n : asked > n;
            };
        }
    }

    private static List<Clause> clausesOf(String text) {
        List<Clause> list = new ArrayList<>();
        for (String clause : text.split(";")) {
            String[] parts = clause.split(" ");
            Test e = parts.length > 2 ? new Reader(parts[2]).either() : null;
            list.add(new Clause(parts[0], Integer.parseInt(parts[1]), e));
        }
        return list;
    }

    // ---- how all is

    private static final class All {
        int[] state = new int[6];
        int[] has = {-5, -5, -5, -5, -5, -5};
        int[] purse = new int[6];
        int left = 9;
        int round = 9;
        int year;
        List<Integer> lot = new ArrayList<>();
        List<Integer> book = new ArrayList<>();
        List<Clause> valley = List.of();

        All copy() {
            All a = new All();
            a.state = state.clone();
            a.has = has.clone();
            a.purse = purse.clone();
            a.left = left;
            a.round = round;
            a.year = year;
            a.lot = new ArrayList<>(lot);
            a.book = new ArrayList<>(book);
            a.valley = valley;
            return a;
        }

        int sum(String word, int s, int l, int i, int p) {
            int sum = 0;
            for (Clause c : valley) {
                if (c.word().equals(word) && c.e().holds(s, l, i, p)) {
                    sum += c.n();
                }
            }
            return word.equals("fall") ? Math.min(9, sum) : sum;
        }

        int last(String word) {
            int n = 0;
            for (Clause c : valley) {
                n = c.word().equals(word) ? c.n() : n;
            }
            return n;
        }

        int gain(int s, int m, int l, int i, int p) {
            return sum("bring", s + m, l, i, p) - m * sum("cost", s, l, i, p);
        }

        int after(int s, int m, int l, int i, int p) {
            return Math.max(0, s + m - sum("fall", s + m, l, i, p));
        }

        int whose(int holding) {
            for (int k = 0; k < 6; k++) {
                if (has[k] == holding) {
                    return k;
                }
            }
            return -5;
        }
    }

    // ---- holders

    record Best(int sum, List<Integer> row) {
    }

    private class Holder {
        final int i;
        final int v;
        int[] told = {-5, -5, -5, -5, -5, -5, -5, -5, -5, -5};

        Holder(int i, int v) {
            this.i = i;
            this.v = v;
        }

        int kind() {
            return 0;
        }

        int wants(All a, int holding, int s, int left, int purse) {
            return 0;
        }

        final int steps(All a, int holding, int s, int left, int purse) {
            return Math.min(9 - s, wants(a, holding, s, left, purse));
        }

        int worth(All a, int holding, int left) {
            int s = a.state[holding];
            int sum = 0;
            for (int l = left; l > 0; l--) {
                int m = steps(a, holding, s, l, a.purse[i] + sum);
                sum += a.gain(s, m, l, holding, i);
                s = a.after(s, m, l, holding, i);
            }
            return sum;
        }

        int mends(int x) {
            ran.add(10);
            return x + i;
        }

        int leaves(int x) {
            ran.add(11);
            return mends(x) - v;
        }

        int tells(int x) {
            ran.add(12);
            return leaves(x) * 2;
        }
    }

    private class Plain extends Holder {
        Plain(int i, int v) {
            super(i, v);
        }

        @Override
        int kind() {
            return 1;
        }

        int years(int left) {
            return left;
        }

        int end(All a) {
            return 0;
        }

        @Override
        int wants(All a, int holding, int s, int left, int purse) {
            return best(a, holding, s, years(left), end(a)).row().get(0);
        }

        @Override
        int worth(All a, int holding, int left) {
            return best(a, holding, a.state[holding], years(left), end(a)).sum();
        }

        private Best best(All a, int holding, int s, int l, int end) {
            if (l == 0) {
                return new Best(end * s, List.of());
            }
            List<Integer> key = List.of(i, holding, s, l, end);
            Best known = bests.get(key);
            if (known != null) {
                return known;
            }
            Best best = null;
            for (int m = 0; m <= 2 && s + m <= 9; m++) {
                Best rest = best(a, holding, a.after(s, m, l, holding, i), l - 1, end);
                int sum = rest.sum() + a.gain(s, m, l, holding, i);
                if (best == null || sum > best.sum()) {
                    List<Integer> row = new ArrayList<>(List.of(m));
                    row.addAll(rest.row());
                    best = new Best(sum, row);
                }
            }
            bests.put(key, best);
            return best;
        }

        @Override
        int leaves(int x) {
            ran.add(20);
            return super.leaves(x) ^ 6;
        }
    }

    private class Poor extends Holder {
        Poor(int i, int v) {
            super(i, v);
        }

        @Override
        int kind() {
            return 2;
        }

        @Override
        int wants(All a, int holding, int s, int left, int purse) {
            return s < v && purse >= a.sum("cost", s, left, holding, i) ? 1 : 0;
        }

        @Override
        int mends(int x) {
            ran.add(30);
            return super.mends(x * 3);
        }
    }

    private class Longer extends Plain {
        Longer(int i, int v) {
            super(i, v);
        }

        @Override
        int kind() {
            return 3;
        }

        @Override
        int years(int left) {
            return left + v;
        }

        @Override
        int tells(int x) {
            ran.add(40);
            return super.tells(x) + leaves(1);
        }
    }

    private class Paid extends Plain {
        Paid(int i, int v) {
            super(i, v);
        }

        @Override
        int kind() {
            return 4;
        }

        @Override
        int end(All a) {
            return a.last("pay");
        }

        @Override
        int mends(int x) {
            ran.add(50);
            return -super.mends(x);
        }

        @Override
        int leaves(int x) {
            ran.add(51);
            return super.leaves(x + 1);
        }
    }

    private class Swap extends Plain {
        Swap(int i, int v) {
            super(i, v);
        }

        @Override
        int kind() {
            return 5;
        }

        @Override
        int end(All a) {
            return v;
        }

        @Override
        int tells(int x) {
            ran.add(60);
            return super.tells(x - i);
        }
    }

    private class Told extends Poor {
        Told(int i, int v) {
            super(i, v);
        }

        @Override
        int kind() {
            return 6;
        }

        @Override
        int wants(All a, int holding, int s, int left, int purse) {
            return told[left] != -5 ? told[left] : super.wants(a, holding, s, left, purse);
        }

        @Override
        int leaves(int x) {
            ran.add(70);
            return super.leaves(x) + super.mends(2);
        }

        @Override
        int mends(int x) {
            ran.add(71);
            return super.mends(x) ^ v;
        }
    }

    private Holder make(int kind, int i, int v) {
        switch (kind) {
            case 0: return new Holder(i, v);
            case 1: return new Plain(i, v);
            case 2: return new Poor(i, v);
            case 3: return new Longer(i, v);
            case 4: return new Paid(i, v);
            case 5: return new Swap(i, v);
            default: return new Told(i, v);
        }
    }

    /** Best rows by holder, holding, state, years and end, in the valley that holds. */
    private final Map<List<Integer>, Best> bests = new HashMap<>();
    private final List<Integer> ran = new ArrayList<>();
    private final List<Holder> holders = new ArrayList<>();
    private final List<List<Clause>> valleys = new ArrayList<>();
    private final StringBuilder text = new StringBuilder();
    private final Object[] tapes = new Object[6];
    private All now = new All();
    private All image;
    private int holdings;

    // ---- years

    private int year(All a, List<Holder> who) {
        int gains = 0;
        int[] state = a.state.clone();
        int[] purse = a.purse.clone();
        for (int h = 0; h < holdings; h++) {
            int k = a.whose(h);
            if (k < 0) {
                state[h] = a.after(a.state[h], 0, a.left, h, 99);
                continue;
            }
            int m = who.get(k).steps(a, h, a.state[h], a.left, a.purse[k]);
            purse[k] += a.gain(a.state[h], m, a.left, h, k);
            gains += a.gain(a.state[h], m, a.left, h, k);
            state[h] = a.after(a.state[h], m, a.left, h, k);
        }
        a.state = state;
        a.purse = purse;
        a.year++;
        a.left--;
        if (a.left == 0) {
            for (int k = 0; k < holders.size(); k++) {
                a.purse[k] += a.has[k] < 0 ? 0 : a.last("pay") * a.state[a.has[k]];
            }
            a.left = a.round;
            draw(a);
        }
        return gains;
    }

    private void draw(All a) {
        List<Integer> sorted = new ArrayList<>(a.lot);
        sorted.sort(null);
        List<Integer> all = new ArrayList<>();
        for (int h = 0; h < holdings; h++) {
            all.add(h);
        }
        for (int k = 0; k < holders.size() && sorted.equals(all); k++) {
            a.has[k] = k < a.lot.size() ? a.lot.get(k) : -5;
        }
    }

    private int years(All a, List<Holder> who, int n) {
        int gains = 0;
        for (int y = 0; y < n; y++) {
            gains += year(a, who);
        }
        return gains;
    }

    private boolean isHolder(int k) {
        return k >= 0 && k < holders.size();
    }

    private boolean isHolding(int h) {
        return h >= 0 && h < holdings;
    }

    // ---- the calls

    int holding(int state) {
        if (state < 0 || state > 9) {
            return -2;
        }
        if (holdings == 6) {
            return -4;
        }
        now.state[holdings] = state;
        if (isHolder(holdings) && now.has[holdings] < 0) {
            now.has[holdings] = holdings;
        }
        return holdings++;
    }

    int of(int holding, int what) {
        if (!isHolding(holding) || what < 0 || what > 1) {
            return -1;
        }
        return what == 0 ? now.state[holding] : now.whose(holding);
    }

    int set(int what, int n) {
        if (what < 0 || what > 1) {
            return -1;
        }
        if (n < 1 || n > (what == 0 ? 9 : now.round)) {
            return -2;
        }
        int was = what == 0 ? now.round : now.left;
        if (what == 0) {
            now.round = n;
        }
        if (what == 1 || now.left > n) {
            now.left = n;
        }
        return was;
    }

    int feed(int bytes, int n) {
        if (n < 0 || n > 4) {
            return -2;
        }
        if (text.length() + n > 100) {
            return -4;
        }
        for (int b = n - 1; b >= 0; b--) {
            text.append((char) (bytes >>> 8 * b & 0xff));
        }
        return text.length();
    }

    int valley() {
        if (valleys.size() == 5) {
            return -4;
        }
        String read = text.toString();
        text.setLength(0);
        int fault = Grammar.fault(read);
        if (fault >= 0) {
            return -10 - fault;
        }
        valleys.add(clausesOf(read));
        now.valley = valleys.get(valleys.size() - 1);
        bests.clear();
        return valleys.size() - 1;
    }

    int told(int state, int left, int holding, int holder, int what) {
        if (holding < 0 || holding > 5 || holder < 0 || holder > 5 || what < 0 || what > 4) {
            return -1;
        }
        if (state < 0 || state > 9 || left < 1 || left > 18) {
            return -2;
        }
        String word = new String[] {"fall", "bring", "cost", "pay", "keep"}[what];
        return what < 3 ? now.sum(word, state, left, holding, holder) : now.last(word);
    }

    int holder(int kind, int v) {
        if (kind < 0 || kind > 6) {
            return -1;
        }
        if (v < 0 || v > 9) {
            return -2;
        }
        int i = holders.size();
        if (i == 6) {
            return -4;
        }
        holders.add(make(kind, i, v));
        if (isHolding(i) && now.whose(i) < 0) {
            now.has[i] = i;
        }
        return i;
    }

    int has(int holder, int what) {
        if (!isHolder(holder) || what < 0 || what > 3) {
            return -100001;
        }
        Holder h = holders.get(holder);
        return new int[] {h.kind(), h.v, now.has[holder], now.purse[holder]}[what];
    }

    int row(int holder, int left, int m) {
        if (!isHolder(holder) || left < 1 || left > 9) {
            return -1;
        }
        if (m < -1 || m > 2) {
            return -2;
        }
        if (!(holders.get(holder) instanceof Told)) {
            return -3;
        }
        int was = holders.get(holder).told[left];
        holders.get(holder).told[left] = m == -1 ? -5 : m;
        return was;
    }

    int mends(int holder) {
        if (!isHolder(holder)) {
            return -1;
        }
        return now.has[holder] < 0 ? -5 : would(holder, now.has[holder], now.left);
    }

    int would(int holder, int holding, int left) {
        if (!isHolder(holder) || !isHolding(holding)) {
            return -1;
        }
        if (left < 1 || left > 9) {
            return -2;
        }
        return holders.get(holder).steps(now, holding, now.state[holding], left, now.purse[holder]);
    }

    int worth(int holder, int holding, int left) {
        if (!isHolder(holder) || !isHolding(holding)) {
            return -100001;
        }
        return left < 1 || left > 9 ? -100002 : holders.get(holder).worth(now, holding, left);
    }

    int go(int n) {
        if (n < 1 || n > 36) {
            return -2;
        }
        if (now.year + n > 999) {
            return -3;
        }
        years(now, holders, n);
        return now.year;
    }

    int lot(int holding) {
        if (holding == -1) {
            now.lot.clear();
            return 0;
        }
        if (holding < 0 || holding > 5) {
            return -1;
        }
        if (now.lot.contains(holding)) {
            return -3;
        }
        now.lot.add(holding);
        return now.lot.size();
    }

    private int worths(int holder) {
        int sum = 0;
        for (int h = 0; h < holdings; h++) {
            sum += holders.get(holder).worth(now, h, now.round);
        }
        return sum;
    }

    long expect(int holder, int part) {
        if (!isHolder(holder) || part < 0 || part > 1 || holdings == 0) {
            return NO;
        }
        int above = worths(holder);
        int below = holdings;
        for (int d = 6; d > 1; d--) {
            while (above % d == 0 && below % d == 0) {
                above /= d;
                below /= d;
            }
        }
        return part == 0 ? above : below;
    }

    private List<Holder> longs() {
        List<Holder> list = new ArrayList<>();
        for (Holder h : holders) {
            list.add(make(3, h.i, 9));
        }
        return list;
    }

    int ever() {
        return years(now.copy(), longs(), 18) - years(now.copy(), holders, 18);
    }

    int rounds(int what) {
        if (what < 0 || what > 1) {
            return -100001;
        }
        int[] gains = new int[10];
        int best = 1;
        for (int round = 1; round <= 9; round++) {
            All a = now.copy();
            a.round = round;
            a.left = round;
            gains[round] = years(a, holders, 36);
            best = gains[round] > gains[best] ? round : best;
        }
        return what == 0 ? best : gains[best];
    }

    int pay() {
        List<Holder> longs = longs();
        for (int pay = 0; pay <= 99; pay++) {
            final int price = pay;
            boolean all = true;
            for (int k = 0; k < holders.size(); k++) {
                if (now.has[k] < 0) {
                    continue;
                }
                Holder paid = new Paid(k, 0) {
                    @Override
                    int end(All a) {
                        return price;
                    }
                };
                int h = now.has[k];
                all &= paid.steps(now, h, now.state[h], now.left, 0)
                        >= longs.get(k).steps(now, h, now.state[h], now.left, 0);
            }
            if (all) {
                return pay;
            }
        }
        return -5;
    }

    int keep() {
        int bits = 0;
        for (int k = 0; k < holders.size(); k++) {
            if (now.has[k] < 0) {
                continue;
            }
            double own = holders.get(k).worth(now, now.has[k], now.round) - now.last("keep");
            bits |= own * holdings > worths(k) ? 1 << k : 0;
        }
        return bits;
    }

    int swaps() {
        All a = now.copy();
        int n = 0;
        for (int j = 0; j < holders.size(); j++) {
            for (int k = j + 1; k < holders.size(); k++) {
                int x = a.has[j];
                int y = a.has[k];
                if (x < 0 || y < 0) {
                    continue;
                }
                Holder one = holders.get(j);
                Holder other = holders.get(k);
                if (one.worth(a, y, a.left) > one.worth(a, x, a.left)
                        && other.worth(a, x, a.left) > other.worth(a, y, a.left)) {
                    a.has[j] = y;
                    a.has[k] = x;
                    n++;
                }
            }
        }
        return n;
    }

    int alike(int n) {
        if (n < 1 || n > 36) {
            return -2;
        }
        All a = now.copy();
        years(a, holders, n);
        List<Integer> purses = new ArrayList<>();
        for (int k = 0; k < holders.size(); k++) {
            purses.add(a.purse[k]);
        }
        purses.sort(null);
        return purses.isEmpty() ? 0 : purses.get(purses.size() - 1) - purses.get(0);
    }

    private Best bestRow(List<Integer> row) {
        if (row.size() == Math.min(holders.size(), holdings)) {
            int sum = 0;
            for (int k = 0; k < row.size(); k++) {
                sum += holders.get(k).worth(now, row.get(k), now.round);
            }
            return new Best(sum, row);
        }
        Best best = null;
        for (int h = 0; h < holdings; h++) {
            if (!row.contains(h)) {
                List<Integer> longer = new ArrayList<>(row);
                longer.add(h);
                Best one = bestRow(longer);
                best = best == null || one.sum() > best.sum() ? one : best;
            }
        }
        return best;
    }

    int best(int k) {
        if (k != -1 && !isHolder(k)) {
            return -100001;
        }
        Best best = bestRow(List.of());
        return k == -1 ? best.sum() : k < best.row().size() ? best.row().get(k) : -5;
    }

    int book(int m) {
        if (m == -1) {
            now.book.clear();
            return 0;
        }
        if (m < 0 || m > 2) {
            return -2;
        }
        if (now.book.size() == 12) {
            return -4;
        }
        now.book.add(m);
        return now.book.size();
    }

    int looked(int holder, int holding) {
        if (!isHolder(holder) || !isHolding(holding)) {
            return -1;
        }
        int s = now.state[holding];
        int purse = now.purse[holder];
        int left = now.left;
        for (int y = 0; y < now.book.size(); y++) {
            int m = holders.get(holder).steps(now, holding, s, left, purse);
            if (m != now.book.get(y)) {
                return y;
            }
            purse += now.gain(s, m, left, holding, holder);
            s = now.after(s, m, left, holding, holder);
            if (--left == 0) {
                purse += now.last("pay") * s;
                left = now.round;
            }
        }
        return -5;
    }

    int judge(int tape, int i, int n) {
        if (tape < 0 || tape > 5) {
            return -1;
        }
        if (n < 0 || n > 36) {
            return -2;
        }
        if (tapes[tape] != null && !(tapes[tape] instanceof byte[])) {
            return -12;
        }
        byte[] row = (byte[]) tapes[tape];
        All a = now.copy();
        years(a, holders, n);
        for (int h = 0; h < holdings; h++) {
            if (row == null || i < 0 || i >= row.length - h) {
                return 100 + h;
            }
            if (row[i + h] != a.state[h]) {
                return h;
            }
        }
        return -5;
    }

    int image() {
        image = now.copy();
        return now.year;
    }

    int undo() {
        if (image == null) {
            return -3;
        }
        now = image.copy();
        bests.clear();
        return now.year;
    }

    int act(int holder, int act, int x) {
        ran.clear();
        if (!isHolder(holder) || act < 0 || act > 2) {
            return 0;
        }
        Holder h = holders.get(holder);
        return act == 0 ? h.mends(x) : act == 1 ? h.leaves(x) : h.tells(x);
    }

    int trace(int i) {
        return i < 0 || i >= Math.min(20, ran.size()) ? -1 : ran.get(i);
    }

    int taken(int holder, int k) {
        if (k < 0 || k > 6) {
            return -2;
        }
        if (!isHolder(holder)) {
            return -11;
        }
        Class<?> as = make(k, 0, 0).getClass();
        return as.isInstance(holders.get(holder)) ? holders.get(holder).kind() : -12;
    }

    int count(int what) {
        int[] counts = {holdings, holders.size(), valleys.size(), now.year, now.left, now.lot.size(),
            now.book.size(), text.length(), ran.size()};
        return what < 0 || what > 8 ? -2 : counts[what];
    }

    int tape(int tape, int sort, int n) {
        if (tape < 0 || tape > 5) {
            return -1;
        }
        if (sort == -1) {
            tapes[tape] = null;
            return 1;
        }
        if (sort < 0 || sort > 4 || n > 60) {
            return -2;
        }
        if (n < 0) {
            return -14;
        }
        Class<?>[] sorts = {byte.class, short.class, int.class, long.class, boolean.class};
        tapes[tape] = Array.newInstance(sorts[sort], n);
        return 1;
    }

    int item(int tape, int i, long v) {
        if (tape < 0 || tape > 5) {
            return -1;
        }
        Object row = tapes[tape];
        if (row == null) {
            return -11;
        }
        if (i < 0 || i >= Array.getLength(row)) {
            return -13;
        }
        if (row instanceof byte[] b) {
            b[i] = (byte) v;
        } else if (row instanceof short[] s) {
            s[i] = (short) v;
        } else if (row instanceof int[] n) {
            n[i] = (int) v;
        } else if (row instanceof long[] l) {
            l[i] = v;
        } else {
            Array.setBoolean(row, i, v != 0);
        }
        return 1;
    }

    long read(int tape, int i) {
        if (tape < 0 || tape > 5 || tapes[tape] == null || i < 0 || i >= Array.getLength(tapes[tape])) {
            return NO;
        }
        Object row = tapes[tape];
        return row instanceof boolean[] b ? b[i] ? 1 : 0 : Array.getLong(row, i);
    }

    int shift(int tape, int i, int other, int j, int n) {
        if (tape < 0 || tape > 5 || other < 0 || other > 5) {
            return -1;
        }
        if (tapes[tape] == null || tapes[other] == null) {
            return -11;
        }
        try {
            System.arraycopy(tapes[tape], i, tapes[other], j, n);
            return n;
        } catch (ArrayStoreException e) {
            return -12;
        } catch (IndexOutOfBoundsException e) {
            return -13;
        }
    }
}
