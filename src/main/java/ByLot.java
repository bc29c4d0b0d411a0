import java.util.Arrays;

/** Nine years, then by lot: holdings that fall, holders who mend them or not, and what comes of it. */
public final class ByLot {
    public static final int NONE = -1, BAD = -2, STATE = -3, FULL = -4;
    public static final long NO = Long.MIN_VALUE;

    /** Nobody's, no holding, nothing told, none that is otherwise: the document has one number for all. */
    private static final int NIL = -5;
    private static final int NOTHING = -11, CAST = -12, PLACE = -13, SIZE = -14;
    /** Where -1 and -2 may be true sums, these stand for NONE and BAD. */
    private static final int FAR_NONE = -100001, FAR_BAD = -100002;

    private static final int MOST = 6;
    private static final int STATES = 10;
    private static final int ROUND_MOST = 9;
    private static final int LEFT_MOST = 18;
    private static final int STEPS_MOST = 2;
    private static final int YEARS_MOST = 36;
    private static final int YEAR_MOST = 999;
    private static final int PAY_MOST = 99;
    private static final int BOOK_MOST = 12;
    private static final int NOBODYS_NUMBER = 99;

    private static final int HOLDER = 0, PLAIN = 1, LONG = 3, PAID = 4, SWAP = 5, TOLD = 6;
    private static final int[] KIND_ABOVE = {-1, 0, 0, 1, 1, 1, 2};

    private final Land land = new Land();
    private final World now = new World();
    private final World ahead = new World();
    private final World image = new World();
    private boolean imaged;
    private final Text text = new Text(land.bare);
    private final Draw draw = new Draw();
    private final Acts acts = new Acts();
    private final Tape[] tapes = new Tape[MOST];
    private final int[] wanted = new int[MOST];

    public ByLot() {
        for (int t = 0; t < MOST; t++) {
            tapes[t] = new Tape();
        }
    }

    // ---- holdings, valleys

    public int holding(int state) {
        if (!within(state, 0, STATES - 1)) {
            return BAD;
        }
        int number = land.holdingCount;
        if (number >= MOST) {
            return FULL;
        }
        land.holdingCount = number + 1;
        put(now.states, number, state);
        if (number < land.holderCount && now.has[number] == NIL) {
            put(now.has, number, number);
        }
        return number;
    }

    public int of(int holding, int what) {
        if (!land.hasHolding(holding) || !within(what, 0, 1)) {
            return NONE;
        }
        return what == 0 ? at(now.states, holding) : now.whose(holding);
    }

    public int set(int what, int n) {
        if (!within(what, 0, 1)) {
            return NONE;
        }
        if (!within(n, 1, what == 0 ? ROUND_MOST : now.round)) {
            return BAD;
        }
        int was = what == 0 ? now.round : now.left;
        if (what == 0) {
            now.round = n;
            now.left = Math.min(now.left, n);
        } else {
            now.left = n;
        }
        return was;
    }

    public int feed(int bytes, int n) {
        if (!within(n, 0, 4)) {
            return BAD;
        }
        return text.append(bytes, n) ? text.size : FULL;
    }

    public int valley() {
        Valley fresh = land.freshValley();
        if (fresh == null) {
            return FULL;
        }
        int fault = text.parse(fresh);
        text.size = 0;
        if (fault >= 0) {
            return -10 - fault;
        }
        now.valley = land.valleyCount;
        land.valleyCount++;
        return now.valley;
    }

    public int told(int state, int left, int holding, int holder, int what) {
        if (!within(holding, 0, MOST - 1) || !within(holder, 0, MOST - 1) || !within(what, 0, 4)) {
            return NONE;
        }
        if (!within(state, 0, STATES - 1) || !within(left, 1, LEFT_MOST)) {
            return BAD;
        }
        if (what > 2) {
            Valley held = land.valleyOf(now);
            return what == 3 ? held.payN : held.keepN;
        }
        return land.ground(now, holding, holder).number(what, left, state);
    }

    // ---- holders, years

    public int holder(int kind, int v) {
        if (!within(kind, HOLDER, TOLD)) {
            return NONE;
        }
        if (!within(v, 0, 9)) {
            return BAD;
        }
        int number = land.holderCount;
        if (number >= MOST) {
            return FULL;
        }
        land.join(kind, v);
        if (land.hasHolding(number) && now.whose(number) == NIL) {
            put(now.has, number, number);
        }
        return number;
    }

    public int has(int holder, int what) {
        Holder one = land.holderAt(holder);
        if (one == null) {
            return FAR_NONE;
        }
        switch (what) {
            case 0: return one.kind;
            case 1: return one.v;
            case 2: return at(now.has, holder);
            case 3: return at(now.purses, holder);
            default: return FAR_NONE;
        }
    }

    public int row(int holder, int left, int m) {
        Holder one = land.holderAt(holder);
        if (one == null || !within(left, 1, ROUND_MOST)) {
            return NONE;
        }
        if (!within(m, -1, STEPS_MOST)) {
            return BAD;
        }
        if (one.kind != TOLD) {
            return STATE;
        }
        int was = at(one.steps, left);
        put(one.steps, left, m < 0 ? NIL : m);
        return was;
    }

    public int mends(int holder) {
        Holder one = land.holderAt(holder);
        if (one == null) {
            return NONE;
        }
        int holding = at(now.has, holder);
        return holding == NIL ? NIL : land.stepsOf(now, one, holding, now.left);
    }

    public int would(int holder, int holding, int left) {
        Holder one = land.holderAt(holder);
        if (one == null || !land.hasHolding(holding)) {
            return NONE;
        }
        return within(left, 1, ROUND_MOST) ? land.stepsOf(now, one, holding, left) : BAD;
    }

    public int worth(int holder, int holding, int left) {
        Holder one = land.holderAt(holder);
        if (one == null || !land.hasHolding(holding)) {
            return FAR_NONE;
        }
        return within(left, 1, ROUND_MOST) ? land.worthOf(now, one, holding, left) : FAR_BAD;
    }

    public int go(int n) {
        if (!within(n, 1, YEARS_MOST)) {
            return BAD;
        }
        if (now.year + n > YEAR_MOST) {
            return STATE;
        }
        land.pass(now, land.holders, n);
        return now.year;
    }

    public int lot(int holding) {
        if (holding == -1) {
            now.lotSize = 0;
            return 0;
        }
        if (!within(holding, 0, MOST - 1)) {
            return NONE;
        }
        if (now.inLot(holding)) {
            return STATE;
        }
        if (now.lotSize >= MOST) {
            return FULL;
        }
        put(now.lot, now.lotSize, holding);
        now.lotSize++;
        return now.lotSize;
    }

    // ---- what is asked

    public long expect(int holder, int part) {
        Holder one = land.holderAt(holder);
        if (one == null || !within(part, 0, 1) || land.holdingCount < 1) {
            return NO;
        }
        int sum = land.worthsOf(now, one);
        int common = commonDivisor(Math.abs(sum), land.holdingCount);
        if (common < 1) {
            return NO;
        }
        return part == 0 ? sum / common : land.holdingCount / common;
    }

    public int ever() {
        ahead.become(now);
        int asLong = land.pass(ahead, land.longs, LEFT_MOST);
        ahead.become(now);
        return asLong - land.pass(ahead, land.holders, LEFT_MOST);
    }

    public int rounds(int what) {
        if (!within(what, 0, 1)) {
            return FAR_NONE;
        }
        int bestRound = 0;
        int most = 0;
        for (int round = 1; round <= ROUND_MOST; round++) {
            ahead.become(now);
            ahead.round = round;
            ahead.left = round;
            int gains = land.pass(ahead, land.holders, YEARS_MOST);
            if (bestRound == 0 || gains > most) {
                bestRound = round;
                most = gains;
            }
        }
        return what == 0 ? bestRound : most;
    }

    public int pay() {
        for (int k = 0; k < land.holderCount && k < MOST; k++) {
            Holder one = land.longs[k];
            int holding = now.has[k];
            wanted[k] = one == null || holding == NIL ? 0 : land.stepsOf(now, one, holding, now.left);
        }
        for (int price = 0; price <= PAY_MOST; price++) {
            if (allMendFor(price)) {
                return price;
            }
        }
        return NIL;
    }

    public int keep() {
        int price = land.valleyOf(now).keepN;
        int bits = 0;
        for (int k = 0; k < land.holderCount; k++) {
            Holder one = land.holderAt(k);
            int holding = at(now.has, k);
            if (one == null || holding == NIL) {
                continue;
            }
            int own = land.worthOf(now, one, holding, now.round);
            // Both sides times the number of HOLDINGS: EXPECT is a fraction.
            if ((own - price) * land.holdingCount > land.worthsOf(now, one)) {
                bits |= 1 << k;
            }
        }
        return bits;
    }

    public int swaps() {
        ahead.become(now);
        int swapped = 0;
        for (int a = 0; a < land.holderCount; a++) {
            for (int b = a + 1; b < land.holderCount; b++) {
                int hasA = at(ahead.has, a);
                int hasB = at(ahead.has, b);
                if (hasA != NIL && hasB != NIL && wouldRather(a, hasA, hasB) && wouldRather(b, hasB, hasA)) {
                    put(ahead.has, a, hasB);
                    put(ahead.has, b, hasA);
                    swapped++;
                }
            }
        }
        return swapped;
    }

    public int alike(int n) {
        if (!within(n, 1, YEARS_MOST)) {
            return BAD;
        }
        if (land.holderCount < 1) {
            return 0;
        }
        ahead.become(now);
        land.pass(ahead, land.holders, n);
        int greatest = ahead.purses[0];
        int least = ahead.purses[0];
        for (int k = 1; k < land.holderCount; k++) {
            greatest = Math.max(greatest, at(ahead.purses, k));
            least = Math.min(least, at(ahead.purses, k));
        }
        return greatest - least;
    }

    public int best(int k) {
        if (k != -1 && land.holderAt(k) == null) {
            return FAR_NONE;
        }
        for (int j = 0; j < land.holderCount; j++) {
            Holder one = land.holderAt(j);
            for (int h = 0; one != null && h < land.holdingCount; h++) {
                put(draw.worths, j * MOST + h, land.worthOf(now, one, h, now.round));
            }
        }
        draw.find(land.holderCount, land.holdingCount);
        if (k == -1) {
            return draw.sum;
        }
        return k < draw.length ? at(draw.chosen, k) : NIL;
    }

    // ---- books

    public int book(int m) {
        if (m == -1) {
            now.bookSize = 0;
            return 0;
        }
        if (!within(m, 0, STEPS_MOST)) {
            return BAD;
        }
        if (now.bookSize >= BOOK_MOST) {
            return FULL;
        }
        put(now.book, now.bookSize, m);
        now.bookSize++;
        return now.bookSize;
    }

    public int looked(int holder, int holding) {
        Holder one = land.holderAt(holder);
        if (one == null || !land.hasHolding(holding)) {
            return NONE;
        }
        Ground ground = land.ground(now, holding, holder);
        int state = at(now.states, holding);
        int left = now.left;
        int purse = at(now.purses, holder);
        for (int y = 0; y < now.bookSize; y++) {
            int m = one.stepsIn(ground, state, left, purse);
            if (m != at(now.book, y)) {
                return y;
            }
            purse += ground.gain(left, state, m);
            state = ground.behind(left, state, m);
            left--;
            if (left < 1) {
                purse += land.valleyOf(now).payN * state;
                left = now.round;
            }
        }
        return NIL;
    }

    // ---- judging, the image, acts, tapes

    public int judge(int tape, int i, int n) {
        Tape row = tapeAt(tape);
        if (row == null) {
            return NONE;
        }
        if (!within(n, 0, YEARS_MOST)) {
            return BAD;
        }
        if (row.sort > 0) {
            return CAST;
        }
        ahead.become(now);
        land.pass(ahead, land.holders, n);
        for (int h = 0; h < land.holdingCount; h++) {
            // A place near the greatest int must not wrap to one that is there.
            long place = (long) i + h;
            if (i < 0 || place >= row.size) {
                return 100 + h;
            }
            if (row.itemAt((int) place) != at(ahead.states, h)) {
                return h;
            }
        }
        return NIL;
    }

    public int image() {
        image.become(now);
        imaged = true;
        return now.year;
    }

    public int undo() {
        if (!imaged) {
            return STATE;
        }
        // What came since the image is as a new World has it there: STATE 0, no HOLDING, PURSE 0.
        now.become(image);
        return now.year;
    }

    public int act(int holder, int act, int x) {
        Holder one = land.holderAt(holder);
        acts.ran = 0;
        if (one == null || !within(act, 0, 2)) {
            return 0;
        }
        return acts.begin(one, act, x);
    }

    public int trace(int i) {
        return i >= 0 && i < Math.min(acts.ran, acts.bodies.length) ? acts.bodies[i] : NONE;
    }

    public int taken(int holder, int k) {
        if (!within(k, HOLDER, TOLD)) {
            return BAD;
        }
        Holder one = land.holderAt(holder);
        if (one == null) {
            return NOTHING;
        }
        int kind = one.kind;
        for (int n = 0; n < KIND_ABOVE.length && kind >= 0; n++) {
            if (kind == k) {
                return one.kind;
            }
            kind = at(KIND_ABOVE, kind);
        }
        return CAST;
    }

    public int count(int what) {
        switch (what) {
            case 0: return land.holdingCount;
            case 1: return land.holderCount;
            case 2: return land.valleyCount;
            case 3: return now.year;
            case 4: return now.left;
            case 5: return now.lotSize;
            case 6: return now.bookSize;
            case 7: return text.size;
            case 8: return acts.ran;
            default: return BAD;
        }
    }

    public int tape(int tape, int sort, int n) {
        Tape row = tapeAt(tape);
        if (row == null) {
            return NONE;
        }
        if (sort == -1) {
            row.become(-1, 0);
            return 1;
        }
        if (!within(sort, 0, 4) || n > Tape.ITEMS_MOST) {
            return BAD;
        }
        if (n < 0) {
            return SIZE;
        }
        row.become(sort, n);
        return 1;
    }

    public int item(int tape, int i, long v) {
        Tape row = tapeAt(tape);
        if (row == null) {
            return NONE;
        }
        if (row.sort < 0) {
            return NOTHING;
        }
        return row.write(i, v) ? 1 : PLACE;
    }

    public long read(int tape, int i) {
        Tape row = tapeAt(tape);
        return row == null || row.sort < 0 || !within(i, 0, row.size - 1) ? NO : row.itemAt(i);
    }

    public int shift(int tape, int i, int other, int j, int n) {
        Tape from = tapeAt(tape);
        Tape to = tapeAt(other);
        if (from == null || to == null) {
            return NONE;
        }
        if (from.sort < 0 || to.sort < 0) {
            return NOTHING;
        }
        if (from.sort != to.sort) {
            return CAST;
        }
        if (!from.holds(i, n) || !to.holds(j, n)) {
            return PLACE;
        }
        System.arraycopy(from.items, i, to.items, j, n);
        return n;
    }

    // ---- helpers of the calls

    private boolean allMendFor(int price) {
        for (int k = 0; k < land.holderCount; k++) {
            int least = at(wanted, k);
            if (least < 1) {
                continue;
            }
            int holding = at(now.has, k);
            int m = land.ground(now, holding, k).first(price, now.left, at(now.states, holding));
            if (m < least) {
                return false;
            }
        }
        return true;
    }

    private boolean wouldRather(int holder, int own, int other) {
        Holder one = land.holderAt(holder);
        return one != null && land.worthOf(now, one, other, now.left) > land.worthOf(now, one, own, now.left);
    }

    private Tape tapeAt(int tape) {
        return tape >= 0 && tape < tapes.length ? tapes[tape] : null;
    }

    private static boolean within(int n, int least, int most) {
        return n >= least && n <= most;
    }

    private static int at(int[] row, int i) {
        return i >= 0 && i < row.length ? row[i] : 0;
    }

    private static void put(int[] row, int i, int n) {
        if (i >= 0 && i < row.length) {
            row[i] = n;
        }
    }

    private static int commonDivisor(int a, int b) {
        for (int n = 0; n < 100 && b != 0; n++) {
            int rest = a % b;
            a = b;
            b = rest;
        }
        return a;
    }

    /** How all is: what years change, what is told by hand, which VALLEY holds. An IMAGE is one of these. */
    private static final class World {
        private final int[] states = new int[MOST];
        private final int[] has = new int[MOST];
        private final int[] purses = new int[MOST];
        private final int[] lot = new int[MOST];
        private final int[] book = new int[BOOK_MOST];
        private int lotSize;
        private int bookSize;
        private int left = ROUND_MOST;
        private int round = ROUND_MOST;
        private int year;
        private int valley = -1;

        World() {
            Arrays.fill(has, NIL);
        }

        void become(World other) {
            System.arraycopy(other.states, 0, states, 0, MOST);
            System.arraycopy(other.has, 0, has, 0, MOST);
            System.arraycopy(other.purses, 0, purses, 0, MOST);
            System.arraycopy(other.lot, 0, lot, 0, MOST);
            System.arraycopy(other.book, 0, book, 0, BOOK_MOST);
            lotSize = other.lotSize;
            bookSize = other.bookSize;
            left = other.left;
            round = other.round;
            year = other.year;
            valley = other.valley;
        }

        int whose(int holding) {
            for (int k = 0; k < MOST; k++) {
                if (has[k] == holding) {
                    return k;
                }
            }
            return NIL;
        }

        boolean inLot(int holding) {
            for (int k = 0; k < lotSize && k < MOST; k++) {
                if (lot[k] == holding) {
                    return true;
                }
            }
            return false;
        }
    }

    /** What came and stays: HOLDERS, HOLDINGS by their count, VALLEYS; and how years go for them. */
    private static final class Land {
        private static final int VALLEYS_MOST = 5;

        private final Holder[] holders = new Holder[MOST];
        /** Each HOLDER as if it were LONG with v 9. */
        private final Holder[] longs = new Holder[MOST];
        private final Valley[] valleys = new Valley[VALLEYS_MOST];
        private final Valley bare = new Valley();
        private final Ground[] grounds = new Ground[MOST * (MOST + 1)];
        private int holderCount;
        private int holdingCount;
        private int valleyCount;

        Land() {
            for (int n = 0; n < VALLEYS_MOST; n++) {
                valleys[n] = new Valley();
            }
        }

        void join(int kind, int v) {
            if (holderCount < MOST) {
                holders[holderCount] = new Holder(holderCount, kind, v);
                longs[holderCount] = new Holder(holderCount, LONG, 9);
                holderCount++;
            }
        }

        Holder holderAt(int holder) {
            return holder >= 0 && holder < MOST ? holders[holder] : null;
        }

        boolean hasHolding(int holding) {
            return holding >= 0 && holding < holdingCount;
        }

        Valley freshValley() {
            return valleyCount < VALLEYS_MOST ? valleys[valleyCount] : null;
        }

        Valley valleyOf(World w) {
            return w.valley >= 0 && w.valley < VALLEYS_MOST ? valleys[w.valley] : bare;
        }

        /** holder NIL: nobody's. */
        Ground ground(World w, int holding, int holder) {
            int number = Math.floorMod(holding, MOST);
            boolean nobodys = !within(holder, 0, MOST - 1);
            int place = number * (MOST + 1) + (nobodys ? MOST : holder);
            Ground ground = grounds[place];
            if (ground == null) {
                ground = new Ground(number, nobodys ? NOBODYS_NUMBER : holder);
                grounds[place] = ground;
            }
            ground.stand(valleyOf(w));
            return ground;
        }

        int stepsOf(World w, Holder one, int holding, int left) {
            Ground ground = ground(w, holding, one.number);
            return one.stepsIn(ground, at(w.states, holding), left, at(w.purses, one.number));
        }

        int worthOf(World w, Holder one, int holding, int left) {
            Ground ground = ground(w, holding, one.number);
            return one.worthIn(ground, at(w.states, holding), left, at(w.purses, one.number));
        }

        /** WORTHS of all HOLDINGS together, with a ROUND to the lot. */
        int worthsOf(World w, Holder one) {
            int sum = 0;
            for (int h = 0; h < holdingCount; h++) {
                sum += worthOf(w, one, h, w.round);
            }
            return sum;
        }

        /** n YEARS go; what comes back is all GAINS together. */
        int pass(World w, Holder[] who, int n) {
            int gains = 0;
            for (int y = 0; y < n; y++) {
                for (int h = 0; h < holdingCount && h < MOST; h++) {
                    gains += yearOf(w, who, h);
                }
                w.year++;
                w.left--;
                if (w.left < 1) {
                    endRound(w);
                }
            }
            return gains;
        }

        private int yearOf(World w, Holder[] who, int holding) {
            int owner = w.whose(holding);
            Ground ground = ground(w, holding, owner);
            Holder one = owner >= 0 && owner < who.length ? who[owner] : null;
            int state = at(w.states, holding);
            if (one == null) {
                put(w.states, holding, ground.behind(w.left, state, 0));
                return 0;
            }
            int m = one.stepsIn(ground, state, w.left, at(w.purses, owner));
            int gain = ground.gain(w.left, state, m);
            put(w.purses, owner, at(w.purses, owner) + gain);
            put(w.states, holding, ground.behind(w.left, state, m));
            return gain;
        }

        private void endRound(World w) {
            int price = valleyOf(w).payN;
            for (int k = 0; k < holderCount; k++) {
                int holding = at(w.has, k);
                if (holding != NIL) {
                    put(w.purses, k, at(w.purses, k) + price * at(w.states, holding));
                }
            }
            w.left = w.round;
            if (!lotIsWhole(w)) {
                return;
            }
            for (int k = 0; k < holderCount; k++) {
                put(w.has, k, k < w.lotSize ? at(w.lot, k) : NIL);
            }
        }

        private boolean lotIsWhole(World w) {
            if (w.lotSize != holdingCount) {
                return false;
            }
            for (int h = 0; h < holdingCount; h++) {
                if (!w.inLot(h)) {
                    return false;
                }
            }
            return true;
        }
    }

    /** A HOLDER as it came: its KIND, v, and the ROW of a TOLD one. */
    private static final class Holder {
        private final int number;
        private final int kind;
        private final int v;
        private final int[] steps = new int[ROUND_MOST + 1];

        Holder(int number, int kind, int v) {
            this.number = number;
            this.kind = kind;
            this.v = v;
            Arrays.fill(steps, NIL);
        }

        int stepsIn(Ground ground, int state, int left, int purse) {
            if (reckons()) {
                return ground.first(endPrice(ground), yearsFor(left), state);
            }
            return stepsAtSight(ground, state, left, purse);
        }

        int worthIn(Ground ground, int state, int left, int purse) {
            if (reckons()) {
                return ground.sum(endPrice(ground), yearsFor(left), state);
            }
            int sum = 0;
            for (int l = left; l >= 1; l--) {
                int m = stepsAtSight(ground, state, l, purse + sum);
                sum += ground.gain(l, state, m);
                state = ground.behind(l, state, m);
            }
            return sum;
        }

        /** What those MEND who do not look ahead: HOLDER, POOR, TOLD. */
        private int stepsAtSight(Ground ground, int state, int left, int purse) {
            int m = kind == TOLD ? at(steps, left) : NIL;
            if (m == NIL) {
                boolean can = kind != HOLDER && state < v && purse >= ground.number(Valley.COST, left, state);
                m = can ? 1 : 0;
            }
            return Math.min(m, STATES - 1 - state);
        }

        private boolean reckons() {
            return kind == PLAIN || kind == LONG || kind == PAID || kind == SWAP;
        }

        private int yearsFor(int left) {
            return kind == LONG ? left + v : left;
        }

        /** What a STATE is worth to it behind the last year. */
        private int endPrice(Ground ground) {
            if (kind == PAID) {
                return ground.payN;
            }
            return kind == SWAP ? v : 0;
        }
    }

    /** What the numbers of a HOLDING and of a HOLDER make of the VALLEY that holds, and the best rows there. */
    private static final class Ground {
        private static final int CELLS = (LEFT_MOST + 1) * STATES;

        private final int holding;
        private final int holder;
        /** FALL, BRING, COST, each by LEFT and STATE. */
        private final int[] falls = new int[CELLS];
        private final int[] brings = new int[CELLS];
        private final int[] costs = new int[CELLS];
        /** What the best row comes to, and the m that begins it, by years to go and STATE. */
        private final int[] sums = new int[CELLS];
        private final int[] firsts = new int[CELLS];
        private final int[] mended = new int[STATES];
        private Valley valley;
        private int payN;
        private int planEnd;
        private int planned = -1;

        Ground(int holding, int holder) {
            this.holding = holding;
            this.holder = holder;
        }

        void stand(Valley held) {
            if (held == valley) {
                return;
            }
            valley = held;
            payN = held.payN;
            planned = -1;
            Arrays.fill(falls, 0);
            Arrays.fill(brings, 0);
            Arrays.fill(costs, 0);
            for (int c = 0; c < held.clauses && c < Valley.CLAUSES_MOST; c++) {
                int what = held.whats[c];
                int[] numbers = what == Valley.FALL ? falls : what == Valley.BRING ? brings : costs;
                for (int left = 1; left <= LEFT_MOST; left++) {
                    int states = held.statesIn(c, left, holding, holder);
                    for (int s = 0; s < STATES; s++) {
                        numbers[left * STATES + s] += (states >> s & 1) * held.ns[c];
                    }
                }
            }
            for (int cell = 0; cell < CELLS; cell++) {
                falls[cell] = Math.min(falls[cell], 9);
            }
        }

        int number(int what, int left, int state) {
            int[] numbers = what == Valley.FALL ? falls : what == Valley.BRING ? brings : costs;
            return at(numbers, left * STATES + state);
        }

        int gain(int left, int state, int m) {
            return at(brings, left * STATES + state + m) - m * at(costs, left * STATES + state);
        }

        int behind(int left, int state, int m) {
            return Math.max(0, state + m - at(falls, left * STATES + state + m));
        }

        int first(int end, int years, int state) {
            plan(end, years);
            return at(firsts, years * STATES + state);
        }

        int sum(int end, int years, int state) {
            plan(end, years);
            return at(sums, years * STATES + state);
        }

        private void plan(int end, int years) {
            if (planned < 0 || planEnd != end) {
                planEnd = end;
                planned = 0;
                for (int s = 0; s < STATES; s++) {
                    sums[s] = end * s;
                }
            }
            for (int left = planned + 1; left <= years && left <= LEFT_MOST; left++) {
                planYear(left);
                planned = left;
            }
        }

        private void planYear(int left) {
            if (left < 1 || left > LEFT_MOST) {
                return;
            }
            int row = left * STATES;
            for (int t = 0; t < STATES; t++) {
                int behind = Math.max(0, t - falls[row + t]);
                mended[t] = brings[row + t] + at(sums, row - STATES + behind);
            }
            for (int s = 0; s < STATES; s++) {
                sums[row + s] = mended[s];
                firsts[row + s] = 0;
                // Only what is more replaces: of equal rows the one that begins with the fewest stays.
                for (int m = 1; m <= STEPS_MOST && s + m < STATES; m++) {
                    int sum = mended[s + m] - m * costs[row + s];
                    if (sum > sums[row + s]) {
                        sums[row + s] = sum;
                        firsts[row + s] = m;
                    }
                }
            }
        }
    }

    /** CLAUSES as read: what they tell of, their n, and their E as a row of signs, each behind what it joins. */
    private static final class Valley {
        private static final int FALL = 0, BRING = 1, COST = 2, PAY = 3;
        private static final int CLAUSES_MOST = 10;
        private static final int NOT = -1, AND = -2, OR = -3;
        private static final int ALL_STATES = (1 << STATES) - 1;
        /** Two that wait on each of five levels, and one. */
        private static final int WAITING_MOST = 11;

        private final int[] whats = new int[CLAUSES_MOST];
        private final int[] ns = new int[CLAUSES_MOST];
        private final int[] ends = new int[CLAUSES_MOST];
        private final int[] signs = new int[Text.BYTES_MOST];
        private final int[] waiting = new int[WAITING_MOST];
        private int clauses;
        private int signCount;
        private int payN;
        private int keepN;

        void clear() {
            clauses = 0;
            signCount = 0;
            payN = 0;
            keepN = 0;
        }

        void tells(int what, int n) {
            if (what < PAY) {
                put(whats, clauses, what);
                put(ns, clauses, n);
                put(ends, clauses, signCount);
                clauses++;
            } else if (what == PAY) {
                payN = n;
            } else {
                keepN = n;
            }
        }

        void test(int letter, int relation, int n) {
            join(letter * 300 + relation * 100 + n);
        }

        void join(int sign) {
            put(signs, signCount, sign);
            signCount++;
        }

        /** The STATES with which a clause's E holds, as bits. */
        int statesIn(int clause, int left, int holding, int holder) {
            int count = 0;
            int end = at(ends, clause);
            for (int c = clause > 0 ? at(ends, clause - 1) : 0; c < end; c++) {
                int sign = at(signs, c);
                if (sign == NOT) {
                    put(waiting, count - 1, ALL_STATES & ~at(waiting, count - 1));
                } else if (sign < 0) {
                    count--;
                    int a = at(waiting, count - 1);
                    int b = at(waiting, count);
                    put(waiting, count - 1, sign == AND ? a & b : a | b);
                } else {
                    put(waiting, count, statesOfTest(sign, left, holding, holder));
                    count++;
                }
            }
            return at(waiting, 0);
        }

        private static int statesOfTest(int sign, int left, int holding, int holder) {
            int letter = sign / 300;
            int relation = sign / 100 % 3;
            int n = sign % 100;
            if (letter != 0) {
                int asked = letter == 1 ? left : letter == 2 ? holding : holder;
                return holds(asked, relation, n) ? ALL_STATES : 0;
            }
            int states = 0;
            for (int s = 0; s < STATES; s++) {
                if (holds(s, relation, n)) {
                    states |= 1 << s;
                }
            }
            return states;
        }

        private static boolean holds(int asked, int relation, int n) {
            return relation == 0 ? asked < n : relation == 1 ? asked == n : asked > n;
        }
    }

    /** THE TEXT, and how a VALLEY is read from it: a part that answers false stands at the FAULT. */
    private static final class Text {
        private static final int BYTES_MOST = 100;
        private static final int NEST_MOST = 4;
        private static final String LETTERS = "slip";
        private static final String RELATIONS = "<=>";
        private static final String BEGINNINGS = "fbcpk";

        private final int[] bytes = new int[BYTES_MOST];
        private int size;
        private int place;
        private Valley into;
        /** The number that was read last. */
        private int number;

        Text(Valley first) {
            into = first;
        }

        boolean append(int word, int n) {
            if (n < 0 || size + n > BYTES_MOST) {
                return false;
            }
            for (int b = n - 1; b >= 0; b--) {
                put(bytes, size, word >> 8 * b & 255);
                size++;
            }
            return true;
        }

        /** The FAULT, or -1. */
        int parse(Valley valley) {
            valley.clear();
            into = valley;
            place = 0;
            for (int c = 0; c < Valley.CLAUSES_MOST; c++) {
                if (!clause()) {
                    return place;
                }
                if (place >= size) {
                    return -1;
                }
                if (c + 1 == Valley.CLAUSES_MOST || !passes(';')) {
                    return place;
                }
            }
            return place;
        }

        private boolean clause() {
            int what = BEGINNINGS.indexOf((char) next());
            if (what < 0 || !passesWord(wordOf(what)) || !passesNumber()) {
                return false;
            }
            int n = number;
            if (what < Valley.PAY && !(passes(' ') && either(0))) {
                return false;
            }
            into.tells(what, n);
            return true;
        }

        private boolean either(int depth) {
            if (!both(depth)) {
                return false;
            }
            for (int n = 0; n < BYTES_MOST && passes('|'); n++) {
                if (!both(depth)) {
                    return false;
                }
                into.join(Valley.OR);
            }
            return true;
        }

        private boolean both(int depth) {
            if (!single(depth)) {
                return false;
            }
            for (int n = 0; n < BYTES_MOST && passes('&'); n++) {
                if (!single(depth)) {
                    return false;
                }
                into.join(Valley.AND);
            }
            return true;
        }

        private boolean single(int depth) {
            int sign = next();
            if (sign != '!' && sign != '(') {
                return test();
            }
            if (depth >= NEST_MOST) {
                return false;
            }
            place++;
            if (sign == '(') {
                return either(depth + 1) && passes(')');
            }
            if (!single(depth + 1)) {
                return false;
            }
            into.join(Valley.NOT);
            return true;
        }

        private boolean test() {
            int letter = LETTERS.indexOf((char) next());
            if (letter < 0) {
                return false;
            }
            place++;
            int relation = RELATIONS.indexOf((char) next());
            if (relation < 0) {
                return false;
            }
            place++;
            if (!passesNumber()) {
                return false;
            }
            into.test(letter, relation, number);
            return true;
        }

        private boolean passesNumber() {
            if (!within(next(), '0', '9')) {
                return false;
            }
            number = next() - '0';
            place++;
            if (within(next(), '0', '9')) {
                number = number * 10 + next() - '0';
                place++;
            }
            return true;
        }

        private boolean passesWord(String word) {
            for (int c = 0; c < word.length(); c++) {
                if (!passes(word.charAt(c))) {
                    return false;
                }
            }
            return true;
        }

        private boolean passes(int sign) {
            if (next() != sign) {
                return false;
            }
            place++;
            return true;
        }

        /** The byte at the place; at the end one that begins nothing. */
        private int next() {
            return place >= 0 && place < size && place < BYTES_MOST ? bytes[place] : 0;
        }

        private static String wordOf(int what) {
            switch (what) {
                case Valley.FALL: return "fall ";
                case Valley.BRING: return "bring ";
                case Valley.COST: return "cost ";
                case Valley.PAY: return "pay ";
                default: return "keep ";
            }
        }
    }

    /** BEST of a LOT. */
    private static final class Draw {
        private final int[] worths = new int[MOST * MOST];
        private final int[] trial = new int[MOST];
        private final int[] chosen = new int[MOST];
        private int length;
        private int holdings;
        private boolean any;
        private int sum;

        void find(int holders, int holdingCount) {
            holdings = Math.min(holdingCount, MOST);
            length = Math.min(Math.min(holders, holdings), MOST);
            any = false;
            sum = 0;
            from(this, 0, 0, 0);
        }

        private static void from(Draw draw, int k, int taken, int total) {
            if (k >= draw.length) {
                draw.compare(total);
                return;
            }
            for (int h = 0; h < draw.holdings; h++) {
                if ((taken >> h & 1) == 0) {
                    put(draw.trial, k, h);
                    from(draw, k + 1, taken | 1 << h, total + at(draw.worths, k * MOST + h));
                }
            }
        }

        private void compare(int total) {
            // Rows come first to last, so an equal one that comes later is not taken.
            if (!any || total > sum) {
                any = true;
                sum = total;
                System.arraycopy(trial, 0, chosen, 0, MOST);
            }
        }
    }

    /** ACTS by their BODIES, and THE TRACE. */
    private static final class Acts {
        private static final int MENDS = 0, LEAVES = 1, TELLS = 2;
        private static final int DEPTH_MOST = 40;
        /** The bodies of each KIND for mends, leaves, tells; 0: it has none. */
        private static final int[] BODIES = {
            10, 11, 12,
            0, 20, 0,
            30, 0, 0,
            0, 0, 40,
            50, 51, 0,
            0, 0, 60,
            71, 70, 0,
        };

        private final int[] bodies = new int[20];
        private int ran;
        private int ownKind;
        private int number;
        private int v;

        int begin(Holder one, int what, int x) {
            ownKind = one.kind;
            number = one.number;
            v = one.v;
            return from(ownKind, what, x, 0);
        }

        private int own(int what, int x, int depth) {
            return from(ownKind, what, x, depth);
        }

        /** Runs the body of the first KIND that has one, from this KIND on upwards. */
        private int from(int lowest, int what, int x, int depth) {
            if (depth > DEPTH_MOST) {
                return 0;
            }
            int kind = lowest;
            for (int n = 0; n < KIND_ABOVE.length && kind > HOLDER && at(BODIES, kind * 3 + what) == 0; n++) {
                kind = at(KIND_ABOVE, kind);
            }
            int body = at(BODIES, kind * 3 + what);
            put(bodies, ran, body);
            ran++;
            return run(body, at(KIND_ABOVE, kind), x, depth + 1);
        }

        private int run(int body, int above, int x, int depth) {
            switch (body) {
                case 10: return x + number;
                case 11: return own(MENDS, x, depth) - v;
                case 12: return own(LEAVES, x, depth) * 2;
                case 20: return from(above, LEAVES, x, depth) ^ 6;
                case 30: return from(above, MENDS, x * 3, depth);
                case 40: return from(above, TELLS, x, depth) + own(LEAVES, 1, depth);
                case 50: return -from(above, MENDS, x, depth);
                case 51: return from(above, LEAVES, x + 1, depth);
                case 60: return from(above, TELLS, x - number, depth);
                case 70: return from(above, LEAVES, x, depth) + from(above, MENDS, 2, depth);
                case 71: return from(above, MENDS, x, depth) ^ v;
                default: return 0;
            }
        }
    }

    /** A TAPE: items of every sort stand as longs, narrowed as they come. */
    private static final class Tape {
        private static final int ITEMS_MOST = 60;

        private final long[] items = new long[ITEMS_MOST];
        /** Below 0: it holds nothing. */
        private int sort = -1;
        private int size;

        void become(int newSort, int n) {
            sort = newSort;
            size = Math.max(0, Math.min(n, ITEMS_MOST));
            Arrays.fill(items, 0L);
        }

        boolean write(int i, long v) {
            if (i < 0 || i >= size || i >= ITEMS_MOST) {
                return false;
            }
            items[i] = narrowed(v);
            return true;
        }

        long itemAt(int i) {
            return i >= 0 && i < ITEMS_MOST ? items[i] : 0L;
        }

        boolean holds(int i, int n) {
            return i >= 0 && n >= 0 && (long) i + n <= size;
        }

        private long narrowed(long v) {
            switch (sort) {
                case 0: return (byte) v;
                case 1: return (short) v;
                case 2: return (int) v;
                case 3: return v;
                default: return v != 0 ? 1 : 0;
            }
        }
    }
}
