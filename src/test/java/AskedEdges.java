/** Edges of what is asked: EXPECT to BEST. */
final class AskedEdges {
    private static final int MOST = Integer.MAX_VALUE, LEAST = Integer.MIN_VALUE;
    private final Edge edge;

    AskedEdges(Edge edge) {
        this.edge = edge;
    }

    void all() {
        changesNothing();
        expect();
        expectRefused();
        ever();
        rounds();
        roundsTold();
        pay();
        payTold();
        keep();
        keepTold();
        swaps();
        alike();
        alikeTold();
        best();
        bestTold();
    }

    /** As many HOLDERS of KIND 0 as HOLDINGS. */
    private static ByLot each(String valley, int... states) {
        ByLot x = Lands.of(valley, states);
        for (int k = 0; k < states.length; k++) {
            x.holder(0, 0);
        }
        return x;
    }

    /** HOLDER k is a TOLD one that mends m each year. */
    private static void tell(ByLot x, int k, int m) {
        for (int left = 1; left <= 9; left++) {
            x.row(k, left, m);
        }
    }

    private void changesNothing() {
        edge.says("Terms 3", "All that follows is asked, goes on from how all is, and changes nothing.");
        edge.only("expect", Lands::busy, x -> x.expect(1, 0));
        edge.only("ever", Lands::busy, ByLot::ever);
        edge.only("rounds", Lands::busy, x -> x.rounds(1));
        edge.only("pay", Lands::busy, ByLot::pay);
        edge.only("keep", Lands::busy, ByLot::keep);
        edge.only("swaps", Lands::busy, ByLot::swaps);
        edge.only("alike", Lands::busy, x -> x.alike(36));
        edge.only("best", Lands::busy, x -> x.best(-1));
        edge.only("looked", Lands::busy, x -> x.looked(1, 0));
        edge.only("judge", Lands::busy, x -> x.judge(0, 0, 36));
        edge.only("ever, six", Lands::full, ByLot::ever);
        edge.only("best, six", Lands::full, x -> x.best(5));
        ByLot x = Lands.with(Lands.of("bring 1 s>0;fall 1 s<99", 9), 0, 0);
        edge.is("from how all is: 9 falls", x.rounds(1), 9);
        x.go(4);
        edge.is("from how all is: 5 falls", x.rounds(1), 5);
    }

    private void mean(long above, long below, int... states) {
        ByLot x = each("bring 1 s=1", states);
        x.set(0, 1);
        String call = states.length + " HOLDINGS, " + above + " / " + below;
        edge.is(call + " above", x.expect(states.length - 1, 0), above);
        edge.is(call + " below", x.expect(0, 1), below);
    }

    private void expect() {
        edge.says("Terms 3", "EXPECT of a HOLDER: the mean, over all HOLDINGS as they are now, of its WORTH with a ROUND to the lot:");
        ByLot x = each("bring 1 s>2;fall 1 s<99", 9, 0);
        x.set(0, 3);
        x.set(1, 2);
        edge.is("three years of one", x.expect(0, 0), 3);
        edge.is("of two", x.expect(0, 1), 2);
        x.go(2);
        edge.is("as they are now", x.expect(0, 0), 3);
        x.go(3);
        edge.is("as they are now", x.expect(0, 0), 1);
        x.holding(9);
        edge.is("HOLDINGS that are nobody's, too", x.expect(1, 0), 5);
        edge.is("of three", x.expect(1, 1), 3);
        edge.says("Terms 3", "a fraction in lowest terms (no HOLDINGS: none).");
        mean(0, 1, 0);
        mean(1, 1, 1);
        mean(0, 1, 0, 0, 0, 0);
        mean(1, 2, 1, 0);
        mean(2, 3, 1, 0, 1);
        mean(3, 4, 1, 0, 1, 1);
        mean(1, 2, 1, 0, 1, 0);
        mean(4, 5, 1, 1, 0, 1, 1);
        mean(1, 6, 0, 0, 0, 0, 0, 1);
        mean(1, 3, 0, 0, 1, 0, 0, 1);
        mean(1, 2, 1, 0, 1, 0, 0, 1);
        mean(2, 3, 1, 0, 1, 1, 0, 1);
        mean(5, 6, 1, 1, 1, 1, 0, 1);
        mean(1, 1, 1, 1, 1, 1, 1, 1);
        x = Lands.with(Lands.of("cost 3 s=1", 1, 1, 0, 0, 0, 0), 6, 0);
        tell(x, 0, 1);
        x.set(0, 1);
        edge.is("below 0: above", x.expect(0, 0), -1);
        edge.is("below 0: below", x.expect(0, 1), 1);
        Lands.valley(x, "cost 1 s=1");
        edge.is("- 1 / 3 above", x.expect(0, 0), -1);
        edge.is("- 1 / 3 below", x.expect(0, 1), 3);
        edge.is("no HOLDINGS", Lands.with(new ByLot(), 0, 0).expect(0, 0), ByLot.NO);
    }

    private void expectRefused() {
        edge.says("Promise 16", "EXPECT; part 0 above, 1 below the line.");
        edge.is("above", each("bring 7 l=1", 3).expect(0, 0), 7);
        edge.is("below", each("bring 7 l=1&i=0", 3, 3).expect(1, 1), 2);
        edge.says("Promise 16", "NO: holder, part, no HOLDINGS.");
        for (int n : new int[] {-1, 5, 6, LEAST, MOST}) {
            edge.stays("HOLDER " + n, Lands::busy, x -> x.expect(n, 0), Long.MIN_VALUE);
        }
        for (int n : new int[] {-1, 2, LEAST, MOST}) {
            edge.stays("part " + n, Lands::busy, x -> x.expect(0, n), Long.MIN_VALUE);
        }
        for (int part = 0; part < 2; part++) {
            edge.is("nobody, part " + part, Lands.of("", 1).expect(0, part), Long.MIN_VALUE);
            edge.is("no HOLDINGS, part " + part, Lands.with(new ByLot(), 0, 0).expect(0, part), Long.MIN_VALUE);
        }
    }

    private void ever() {
        edge.says("Terms 3", "EVER: how much more all GAINS of 18 years (pay aside) would be together,"
            + " if all HOLDERS were LONG with v 9, than as they are.");
        edge.is("18 years of 1", each("bring 1 s>0;pay 99", 0).ever(), 18);
        edge.is("as much as it is", each("bring 1 s<99;pay 99", 9).ever(), 0);
        // A LONG one with v 9 takes LEFT 9 for 18, where a step is free; it is not.
        edge.is("v 9: it may be less", each("bring 1 s>0;cost 99 l<18", 0).ever(), 18 - 99);
        edge.is("v 9: not more", each("bring 1 s>0;cost 99 l<19", 0).ever(), 0);
        edge.is("two HOLDERS", each("bring 1 s>0&i=0;bring 2 s>0&i=1", 0, 0).ever(), 54);
        ByLot x = Lands.with(Lands.of("bring 1 s>0", 0, 0), 0, 0);
        edge.is("nobody's brings nothing", x.ever(), 18);
        edge.is("a LONG one with v 9", Lands.with(Lands.of("fall 1 s<99;bring 9 s>3;cost 2 s<99", 5), 3, 9).ever(), 0);
        x = each("bring 1 i=1&p=0&s>0;bring 2 i=0&p=1&s>0", 0, 0);
        Lands.lots(x, 1, 0);
        edge.is("lots are drawn", x.ever(), 27);
        x.set(1, 1);
        edge.is("LEFT as it is", x.ever(), 17 + 34);
        edge.says("Promise 17", "EVER.");
        edge.is("nobody, nothing", new ByLot().ever(), 0);
        edge.is("nobody", Lands.of("bring 1 s>0", 0).ever(), 0);
        edge.is("no HOLDINGS", Lands.with(new ByLot(), 1, 0).ever(), 0);
        x = each("bring 1 s>0", 0);
        for (int n = 0; n < 27; n++) {
            x.go(36);
        }
        x.go(27);
        edge.is("in the YEAR 999", x.ever(), 18);
    }

    private void most(int round, int gains, ByLot x) {
        edge.is("the ROUND is " + round, x.rounds(0), round);
        edge.is("GAINS of a ROUND of " + round, x.rounds(1), gains);
    }

    private void rounds() {
        edge.says("Terms 3", "ROUNDS: the ROUND (1 .. 9) with which all GAINS (pay aside) of 36 years are greatest,"
            + " LEFT being as many at first (of several the least).");
        most(1, 36, each("bring 1 l=1", 5));
        most(9, 4, each("bring 1 l=9;pay 99", 5));
        for (int left = 1; left < 10; left++) {
            // The year 0 of each round has LEFT as many as ROUND.
            ByLot x = each("bring 1 l=" + left, 5);
            x.set(1, 1);
            most(left, (35 + left) / left, x);
        }
        most(1, 0, each("pay 9", 9));
        most(1, 36, each("bring 1 l<10", 9));
        most(1, 36, each("bring 1 l<3", 9));
        most(3, 36, each("bring 3 l=3", 9));
        ByLot x = Lands.with(Lands.of("cost 1 s<99;fall 1 s<99", 0), 6, 0);
        x.row(0, 1, 1);
        // Four times with 9, and with 8, too.
        most(8, -4, x);
        tell(x, 0, 1);
        most(1, -36, x);
        x = each("bring 5 p=0&i=1", 0, 0);
        Lands.lots(x, 1, 0);
        most(1, 175, x);
    }

    private void roundsTold() {
        edge.says("Promise 18", "ROUNDS: what 0 the ROUND, 1 all GAINS then.");
        most(1, 0, new ByLot());
        most(1, 0, Lands.of("bring 1 l=3", 5));
        most(4, 81, each("bring 9 l=4", 5));
        edge.says("Promise 18", "-100001: NONE.");
        for (int what : new int[] {-1, 2, LEAST, MOST}) {
            edge.stays("rounds(" + what + ")", Lands::busy, x -> x.rounds(what), -100001);
            edge.is("rounds(" + what + "), nobody", new ByLot().rounds(what), -100001);
        }
    }

    /** LEFT 1: for ever a step that brings 1 a year comes to 10, with pay to 1 and pay. */
    private static ByLot leaving(String valley, int... states) {
        ByLot x = each(valley, states);
        x.set(1, 1);
        return x;
    }

    private void pay() {
        edge.says("Terms 3", "PAY: the least pay (0 .. 99) with which all HOLDERS, if they were PAID, would MEND as much"
            + " in the year that comes as if they were LONG with v 9 (each as much or more; -5: none).");
        edge.is("it needs none", leaving("bring 1 s>0", 0).pay(), 0);
        edge.is("as much: 1 - 5 and 4 are 0", leaving("bring 1 s>0;cost 5 s<1", 0).pay(), 5);
        edge.is("1 is the least", leaving("bring 1 s>0;cost 1 s<1", 0).pay(), 1);
        edge.is("whatever pay is", leaving("bring 1 s>0;cost 5 s<1;pay 50", 0).pay(), 5);
        // With 8 the first mends 2, though 1 would do.
        edge.is("each, or more", leaving("bring 1 s>0;cost 5 i=0;cost 8 i=1", 0, 0).pay(), 8);
        edge.is("99", leaving("bring 20 s>0&l>1;cost 98 s=0", 0).pay(), 99);
        edge.is("100 is too much", leaving("bring 20 s>0&l>1;cost 99 s=0", 0).pay(), -5);
        edge.is("one of two has none", leaving("bring 20 s>0&l>1;cost 99 s=0&i=1", 0, 0).pay(), -5);
        edge.is("what falls is not paid", leaving("bring 1 s>0;cost 5 s<1;fall 9 l=1", 0).pay(), -5);
        edge.is("two steps", leaving("bring 1 s>1;cost 3 s<2", 0).pay(), 3);
        ByLot x = each("bring 1 s>0;cost 5 s<1", 0);
        edge.is("with nine years it needs none", x.pay(), 0);
        x.set(1, 6);
        edge.is("with six it needs none", x.pay(), 0);
        x.set(1, 5);
        edge.is("with five a step comes to nothing", x.pay(), 1);
        x = leaving("bring 1 s>4;cost 5 s<5", 4);
        edge.is("of STATE 4", x.pay(), 5);
        x.set(0, 9);
        x = each("bring 1 s>0;cost 5 s<1;fall 9 l=9", 9);
        edge.is("of STATE 9", x.pay(), 0);
        edge.is("what is asked of 36 years", x.alike(36), 0);
        x.go(8);
        Lands.valley(x, "bring 1 s>0;cost 5 s<1");
        edge.is("of STATE 0", x.pay(), 5);
        x = Lands.with(new ByLot(), 0, 0, 0, 0);
        x.holding(0);
        x.holding(0);
        Lands.valley(x, "bring 1 s>0;cost 20 p=0;cost 5 p=1");
        x.set(1, 1);
        edge.is("of its own number", x.pay(), 5);
        // v 9 is 10 years in all: a step for 9 is worth it, one for 10 is not.
        edge.is("v 9", leaving("bring 1 s>0;cost 9 s<1", 0).pay(), 9);
        edge.is("not more", leaving("bring 1 s>0;cost 10 s<1", 0).pay(), 0);
    }

    private void payTold() {
        edge.says("Promise 19", "PAY; -5.");
        edge.is("nobody, nothing", new ByLot().pay(), 0);
        edge.is("nobody", Lands.of("bring 1 s>0;cost 5 s<1", 0).pay(), 0);
        ByLot x = Lands.with(new ByLot(), 1, 0, 4, 9);
        Lands.valley(x, "bring 1 s>0;cost 5 s<1");
        edge.is("no HOLDINGS", x.pay(), 0);
        x.set(1, 1);
        edge.is("no HOLDINGS, LEFT 1", x.pay(), 0);
        x.holding(0);
        edge.is("one has one", x.pay(), 5);
        Lands.with(x, 1, 0);
        Lands.valley(x, "bring 1 s>0;cost 5 p=0;cost 9 p=1");
        edge.is("the others have none, and need none", x.pay(), 5);
        edge.is("-5", leaving("bring 99 s>0&l>1;cost 99 s=0", 0).pay(), -5);
    }

    private void keep() {
        edge.says("Terms 3", "KEEP: HOLDERS who would rather keep their HOLDING at the price keep:"
            + " WORTH of it with a ROUND to the lot, less keep, is more than EXPECT: as bits.");
        int[][] cases = {{4, 1}, {5, 0}, {6, 0}, {0, 1}};
        for (int[] c : cases) {
            // WORTH 6 of 1, EXPECT 1.
            ByLot x = each("bring 6 s=1;keep " + c[0], 1, 0, 0, 0, 0, 0);
            x.set(0, 1);
            edge.is("at " + c[0], x.keep(), c[1]);
        }
        ByLot x = each("bring 5 s=1;keep 3", 1, 0, 0);
        x.set(0, 1);
        edge.is("2 is more than 5 / 3", x.keep(), 1);
        Lands.valley(x, "bring 4 s=1;keep 3");
        edge.is("1 is not more than 4 / 3", x.keep(), 0);
        x = Lands.with(Lands.of("cost 1 s=1", 0, 1), 6, 0, 6, 0);
        tell(x, 0, 1);
        tell(x, 1, 1);
        x.set(0, 1);
        edge.is("0 is more than - 1 / 2", x.keep(), 1);
        x = each("bring 6 s=1", 0, 1, 0, 1, 0, 1);
        edge.is("as bits", x.keep(), 2 + 8 + 32);
        x = Lands.with(Lands.of("bring 3 i=0;bring 2 i=1", 1, 1), 0, 0);
        edge.is("more HOLDINGS than HOLDERS", x.keep(), 1);
        x = Lands.with(Lands.of("bring 3 i=0", 1), 0, 0, 0, 0, 0, 0);
        edge.is("fewer HOLDINGS than HOLDERS", x.keep(), 0);
        x = each("bring 3 l=2&s=1;bring 1 l=1&s=0;keep 1", 1, 0);
        x.set(0, 2);
        x.set(1, 1);
        edge.is("with a ROUND", x.keep(), 0);
        Lands.valley(x, "bring 4 l=2&s=1;bring 1 l=1&s=0;keep 1");
        edge.is("with a ROUND", x.keep(), 1);
        edge.is("no keep, all alike", each("bring 6 s<99", 1, 1).keep(), 0);
    }

    private void keepTold() {
        edge.says("Promise 20", "KEEP, as bits of HOLDERS (those without a HOLDING never).");
        edge.is("nobody", new ByLot().keep(), 0);
        edge.is("no HOLDINGS", Lands.with(new ByLot(), 1, 0, 1, 0).keep(), 0);
        ByLot x = Lands.with(Lands.of("cost 1 s=0&p=2;bring 1 i=0&p=0", 0, 0), 0, 0, 0, 0, 6, 0);
        tell(x, 2, 1);
        // HOLDER 2 may expect less than nothing, and has nothing.
        edge.is("one has none", x.keep(), 1);
        x = Lands.with(Lands.of("bring 1 s=0", 9, 9), 0, 0, 0, 0, 0, 0);
        edge.is("one has none, and the others nothing", x.keep(), 0);
        edge.is("six of six", each("bring 1 i=0&p=0|i=1&p=1|i=2&p=2|i=3&p=3;bring 1 i=4&p=4|i=5&p=5", 1, 1, 1, 1, 1, 1).keep(), 63);
    }

    private void swaps() {
        edge.says("Terms 3", "SWAPS: all HOLDERS in pairs by numbers (0 and 1, 0 and 2 ..) once:"
            + " two that have HOLDINGS swap these, if both would have a greater WORTH (LEFT as it is) with the other's"
            + " (of what they have then): how many swaps.");
        edge.is("the last pair", each("bring 1 p=4&i=5;bring 1 p=5&i=4", 1, 1, 1, 1, 1, 1).swaps(), 1);
        edge.is("the first and the last", each("bring 1 p=0&i=5;bring 1 p=5&i=0", 1, 1, 1, 1, 1, 1).swaps(), 1);
        edge.is("one would have as much", each("bring 1 p=0&i=1", 1, 1).swaps(), 0);
        edge.is("one would have less", each("bring 1 p=0&i=1;bring 1 p=1&i=1", 1, 1).swaps(), 0);
        ByLot x = each("bring 1 p=0&i=1;bring 2 p=0&i=2;bring 1 p=1&i=0;bring 1 p=2&i=1", 1, 1, 1);
        edge.is("of what they have then", x.swaps(), 2);
        // 1 and 2 would swap, and 0 and 1 then: but that pair is over.
        Lands.valley(x, "bring 1 p=1&i=2;bring 1 p=2&i=1;bring 1 p=0&i=2;bring 2 p=1&i=0");
        edge.is("each pair once", x.swaps(), 1);
        // 0 and 2 swap; 0 and 1 would then, too: but that pair is over.
        Lands.valley(x, "bring 3 p=0&i=1;bring 2 p=0&i=2;bring 1 p=1&i=2;bring 1 p=2&i=0");
        edge.is("each pair once", x.swaps(), 1);
        // 0 and 1 swap; 2 would have nothing of 1 but what it has then.
        Lands.valley(x, "bring 1 p=0&i=1;bring 1 p=1&i=0;bring 2 p=1&i=2;bring 1 p=2&i=0");
        edge.is("of what the other has then", x.swaps(), 2);
        x = each("bring 1 p=0&i=2;bring 1 p=2&i=0;bring 2 p=2&i=1;bring 1 p=1&i=0", 1, 1, 1);
        edge.is("of what the second has then", x.swaps(), 2);
        Lands.valley(x, "bring 1 l=9&p=0&i=1;bring 1 l=9&p=1&i=0");
        edge.is("LEFT 9", x.swaps(), 1);
        x.set(1, 8);
        edge.is("LEFT 8", x.swaps(), 0);
        Lands.valley(x, "bring 50 l=9;bring 1 p=0&i=1;bring 1 p=1&i=0");
        edge.is("LEFT 8, of its own, too", x.swaps(), 1);
        swapsOfSome();
        x = Lands.with(Lands.of("bring 1 p=1&i=0", 1), 0, 0, 0, 0);
        edge.is("one has none", x.swaps(), 0);
        x = Lands.with(Lands.of("cost 9 p=0&i=0;cost 9 p=1&i=1", 0, 0), 6, 0, 6, 0);
        tell(x, 0, 1);
        tell(x, 1, 1);
        edge.is("less below 0 is greater", x.swaps(), 1);
        edge.says("Promise 21", "SWAPS.");
        edge.is("nobody", new ByLot().swaps(), 0);
        edge.is("one alone", each("bring 1 s<99", 1).swaps(), 0);
        edge.is("no HOLDINGS", Lands.with(new ByLot(), 0, 0, 0, 0).swaps(), 0);
    }

    private void swapsOfSome() {
        ByLot x = each("bring 1 p=0&i=0;bring 1 p=1&i=1", 1, 1);
        Lands.lots(x, 1, 0);
        x.go(9);
        edge.is("behind a lot", x.swaps(), 1);
        x = Lands.with(Lands.of("bring 1 p=0&s=0;bring 1 p=1&s=5", 5), 0, 0, 0, 0);
        edge.is("the second has none", x.swaps(), 0);
        x = new ByLot();
        x.image();
        x.holder(0, 0);
        x.holding(0);
        x.undo();
        x.holder(0, 0);
        x.holding(5);
        Lands.valley(x, "bring 1 p=0&s=5;bring 1 p=1&s=0");
        edge.is("the first has none", x.has(0, 2), -5);
        edge.is("the second has one", x.has(1, 2), 1);
        edge.is("they do not swap", x.swaps(), 0);
        Lands.valley(x, "bring 1 s=0;bring 3 p=1&i=1");
        edge.is("the second alone may keep", x.keep(), 2);
    }

    private void alike() {
        edge.says("Terms 3", "ALIKE: the greatest PURSE less the least behind n years (1 .. 36).");
        ByLot x = each("bring 1 i=0;bring 3 i=1", 5, 5);
        edge.is("1 year", x.alike(1), 2);
        edge.is("36 years", x.alike(36), 72);
        x.go(1);
        edge.is("from how all is", x.alike(1), 4);
        x.holder(0, 0);
        edge.is("one has nothing", x.alike(1), 6);
        x = Lands.with(Lands.of("cost 5 s=0;bring 1 i=1;pay 9", 0, 0), 6, 0, 0, 0);
        tell(x, 0, 1);
        edge.is("one is below 0", x.alike(1), 6);
        edge.is("pay comes", x.alike(9), Math.abs(81 - 5 - 9));
        Lands.lots(x, 1, 0);
        x.set(0, 1);
        // -5, 9, then of the other one 1, -5, 9; the second has 1, and then 9.
        edge.is("lots are drawn", x.alike(2), 1);
    }

    private void alikeTold() {
        edge.says("Promise 22", "ALIKE behind n years; 0: no HOLDERS.");
        edge.is("nobody, a year", new ByLot().alike(1), 0);
        edge.is("nobody, 36 years", Lands.of("bring 9 s<99", 9).alike(36), 0);
        edge.is("one alone", each("bring 9 s<99", 9).alike(36), 0);
        edge.is("of six the last", each("bring 9 p=5", 1, 1, 1, 1, 1, 1).alike(1), 9);
        edge.is("of six the first", each("bring 9 p>0", 1, 1, 1, 1, 1, 1).alike(1), 9);
        edge.says("Promise 22", "BAD.");
        for (int n : new int[] {-1, 0, 37, LEAST, MOST}) {
            edge.stays("alike(" + n + ")", Lands::busy, y -> y.alike(n), -2);
        }
    }

    private void row(ByLot x, int sum, int... holdings) {
        edge.is("the sum", x.best(-1), sum);
        for (int k = 0; k < holdings.length; k++) {
            edge.is("the HOLDING of " + k, x.best(k), holdings[k]);
        }
    }

    private void best() {
        edge.says("Terms 3", "BEST of a LOT: the row of HOLDINGS (each once) for HOLDERS by numbers with which WORTHS"
            + " (with a ROUND to the lot) are greatest together;");
        String greedy = "bring 5 p=0&i=0&l=1;bring 4 p=0&i=1&l=1;bring 4 p=1&i=0&l=1";
        row(each(greedy, 1, 1), 8, 1, 0);
        row(each("bring 1 i=0;bring 9 i=1", 1, 1), 90, 0, 1);
        ByLot x = each("bring 9 l=9&p=0&i=1;bring 1 l=3&p=0&i=2", 1, 1, 1);
        x.set(1, 1);
        row(x, 9, 1, 0, 2);
        x.set(0, 3);
        row(x, 1, 2, 0, 1);
        x = Lands.with(Lands.of("cost 1 s=0;cost 2 i=0;cost 9 i=1", 0, 0), 6, 0, 6, 0);
        x.row(0, 9, 1);
        x.row(1, 9, 1);
        row(x, -13, 0, 1);
        x.row(0, 9, 0);
        row(x, -3, 1, 0);
        row(each("bring 1 p=0&i=5&s=1", 1, 1, 1, 1, 1, 1), 9, 5, 0, 1, 2, 3, 4);
        edge.says("Terms 3", "of several the first as a row (as many as there are of the fewer; HOLDERS beyond have none).");
        row(each("", 1, 1, 1, 1, 1, 1), 0, 0, 1, 2, 3, 4, 5);
        row(each("bring 1 p=5&i=0", 1, 1, 1, 1, 1, 1), 9, 1, 2, 3, 4, 5, 0);
        x = Lands.with(Lands.of("bring 1 p=2", 1, 1), 0, 0, 0, 0, 0, 0);
        row(x, 0, 0, 1, -5);
        x = Lands.with(Lands.of("bring 1 i=2;bring 1 i=3", 1, 1, 1, 1), 0, 0, 0, 0);
        row(x, 18, 2, 3);
        x = Lands.with(Lands.of("bring 1 i=2", 1, 1, 1), 0, 0);
        row(x, 9, 2);
    }

    private void bestTold() {
        edge.says("Promise 23", "BEST of a LOT: k -1 the sum, else the HOLDING of HOLDER k (-5: none).");
        row(new ByLot(), 0);
        row(Lands.of("bring 9 s<99", 1), 0);
        row(Lands.with(new ByLot(), 1, 0, 1, 0), 0, -5, -5);
        row(each("bring 9 s<99", 1), 81, 0);
        edge.says("Promise 23", "-100001: NONE: k.");
        for (int k : new int[] {-2, 5, 6, LEAST, MOST}) {
            edge.stays("best(" + k + ")", Lands::busy, x -> x.best(k), -100001);
        }
        edge.is("HOLDER 4 is there", Lands.busy().best(4), -5);
        edge.is("best(0), nobody", Lands.of("", 1).best(0), -100001);
        edge.is("best(6) of six", Lands.full().best(6), -100001);
    }
}
