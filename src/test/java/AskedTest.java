/** Promises 16 to 23: what is asked, and changes nothing. */
public final class AskedTest {
    private static final Due due = new Due();

    public static void main(String[] args) {
        expect();
        ever();
        rounds();
        pay();
        keep();
        swaps();
        alike();
        best();
        changesNothing();
        due.end("AskedTest");
    }

    private static void expect() {
        ByLot x = new ByLot();
        due.is("no holder", x.expect(0, 0), ByLot.NO);
        x.holder(0, 0);
        due.is("no holdings", x.expect(0, 0), ByLot.NO);
        x.set(0, 2);
        x.set(1, 1);
        x.holding(0);
        x.holding(1);
        due.is("0 above", x.expect(0, 0), 0);
        due.is("1 below", x.expect(0, 1), 1);
        x.holding(2);
        x.holding(3);
        Lands.valley(x, "bring 3 s=1;bring 5 s>1");
        due.is("2 * (3 + 5 + 5) of 4", x.expect(0, 0), 13);
        due.is("in lowest terms", x.expect(0, 1), 2);
        due.is("part 2", x.expect(0, 2), ByLot.NO);
        due.is("part -1", x.expect(0, -1), ByLot.NO);
        due.is("holder 1", x.expect(1, 0), ByLot.NO);
        x.holder(6, 0);
        x.row(1, 2, 1);
        Lands.valley(x, "cost 1 s<2");
        due.is("may be below 0", x.expect(1, 0), -1);
        due.is("the line has no sign", x.expect(1, 1), 2);
    }

    private static void ever() {
        ByLot x = new ByLot();
        due.is("nobody", x.ever(), 0);
        x.holder(0, 0);
        x.holding(9);
        Lands.valley(x, "fall 1 s<99;bring 5 s>4;cost 2 s<99;pay 50");
        // As it is: 9, 8, 7, 6, 5 bring 5 each. For ever: 18 years of 5, and 13 steps.
        due.is("ever", x.ever(), 18 * 5 - 13 * 2 - 25);
        ByLot y = new ByLot();
        y.holder(6, 0);
        y.holding(0);
        Lands.valley(y, "bring 1 l>9;cost 1 s<99");
        due.is("what is beyond the lot never comes", y.ever(), 0);
    }

    private static void rounds() {
        ByLot x = new ByLot();
        due.is("nobody", x.rounds(0), 1);
        due.is("nothing", x.rounds(1), 0);
        due.is("what 2", x.rounds(2), -100001);
        due.is("what -1", x.rounds(-1), -100001);
        x.holder(0, 0);
        x.holding(3);
        Lands.valley(x, "bring 4 l=3;pay 9");
        due.is("every third year", x.rounds(0), 3);
        due.is("twelve times", x.rounds(1), 48);
        Lands.valley(x, "bring 4 l<3");
        due.is("of several the least", x.rounds(0), 1);
        due.is("36 years", x.rounds(1), 144);
        x.go(4);
        due.is("LEFT being as many at first", x.rounds(1), 144);
    }

    private static void pay() {
        ByLot x = new ByLot();
        due.is("nobody", x.pay(), 0);
        x.set(0, 1);
        x.holder(2, 0);
        due.is("without a holding", x.pay(), 0);
        x.holding(0);
        // For ever a step is worth 10 years of 2; PAID with a year left only 2 and the pay.
        Lands.valley(x, "bring 2 s>0;cost 9 s=0");
        due.is("9 less 2 and one more than that", x.pay(), 8);
        Lands.valley(x, "bring 2 s>0;cost 9 s=0;fall 2 l=1");
        due.is("pay never comes to what falls at the end", x.pay(), -5);
        Lands.valley(x, "bring 2 s>0;cost 90 s=0");
        due.is("what never is worth it needs none", x.pay(), 0);
        Lands.valley(x, "bring 99 s>0&l>1;cost 99 s=0");
        due.is("pay of 99 is equal alone, and that is not enough", x.pay(), -5);
        Lands.valley(x, "bring 99 s>0&l>1;cost 98 s=0");
        due.is("pay of 99", x.pay(), 99);
        payByLeft();
    }

    private static void payByLeft() {
        ByLot x = new ByLot();
        x.holder(0, 0);
        x.holding(0);
        x.set(1, 1);
        // For ever from LEFT 1 is from 10 on, not from ROUND and 9.
        Lands.valley(x, "bring 2 s>0;cost 9 s=0;cost 90 l=18|l=9");
        due.is("LEFT as it is", x.pay(), 8);
    }

    private static void keep() {
        ByLot x = new ByLot();
        due.is("nobody", x.keep(), 0);
        x.set(0, 2);
        for (int n = 0; n < 3; n++) {
            x.holding(n);
            x.holder(0, 0);
        }
        x.holder(0, 0);
        Lands.valley(x, "bring 3 s=1;bring 5 s=2;keep 1");
        // WORTH 0, 6, 10; EXPECT 16 / 3.
        due.is("only the last at 1", x.keep(), 4);
        Lands.valley(x, "bring 3 s=1;bring 5 s=2");
        due.is("both for nothing", x.keep(), 6);
        Lands.valley(x, "bring 3 s=1;bring 5 s=2;keep 5");
        due.is("none at 5", x.keep(), 0);
        Lands.valley(x, "bring 3 s<99");
        due.is("as much is not more", x.keep(), 0);
    }

    private static void swaps() {
        ByLot x = new ByLot();
        due.is("nobody", x.swaps(), 0);
        x.set(0, 2);
        for (int n = 0; n < 3; n++) {
            x.holding(0);
            x.holder(0, 0);
        }
        Lands.valley(x, "bring 5 p=0&i=1;bring 5 p=1&i=0");
        due.is("both would", x.swaps(), 1);
        Lands.valley(x, "bring 5 p=0&i=1");
        due.is("one would not", x.swaps(), 0);
        // 0 and 1 swap; then 0 has 1 and would have 2, that 2 gives for 1.
        Lands.valley(x, "bring 1 p=0&i=1;bring 5 p=0&i=2;bring 1 p=1&i=0;bring 1 p=2&i=1");
        due.is("of what they have then", x.swaps(), 2);
        due.is("nothing changed", x.has(0, 2), 0);
        Lands.valley(x, "bring 5 p=0&i=1&l=2;bring 5 p=1&i=0&l=2");
        due.is("in time", x.swaps(), 1);
        x.set(1, 1);
        due.is("LEFT as it is", x.swaps(), 0);
    }

    private static void alike() {
        ByLot x = new ByLot();
        due.is("nobody", x.alike(36), 0);
        x.holder(0, 0);
        x.holder(0, 0);
        x.holding(9);
        x.holding(0);
        due.is("n 0", x.alike(0), -2);
        due.is("n 37", x.alike(37), -2);
        Lands.valley(x, "fall 1 s<99;bring 5 s>4;cost 2 s<99;pay 3;bring 2 i=1");
        due.is("a year", x.alike(1), 3);
        due.is("five years", x.alike(5), 15);
        due.is("36 years", x.alike(36), 72 - 25);
        x.set(0, 4);
        due.is("with the pay of a round", x.alike(4), 12 + 15);
        due.is("years did not go", x.count(3), 0);
    }

    private static void best() {
        ByLot x = new ByLot();
        due.is("nobody", x.best(-1), 0);
        due.is("no holder", x.best(0), -100001);
        due.is("k -2", x.best(-2), -100001);
        x.set(0, 3);
        x.set(1, 1);
        for (int n = 0; n < 3; n++) {
            x.holding(n);
        }
        x.holder(0, 0);
        x.holder(0, 0);
        due.is("the first as a row", x.best(0), 0);
        due.is("the first as a row", x.best(1), 1);
        Lands.valley(x, "bring 5 p=0&i=2;bring 4 p=1&i=2;bring 3 p=0&i=1");
        due.is("together", x.best(-1), 3 * 7);
        due.is("holder 0", x.best(0), 1);
        due.is("holder 1", x.best(1), 2);
        x.holder(0, 0);
        x.holder(0, 0);
        due.is("beyond", x.best(3), -5);
        due.is("the third", x.best(2), 0);
        due.is("no such holder", x.best(4), -100001);
        ByLot y = new ByLot();
        y.holding(1);
        y.holder(6, 0);
        for (int left = 1; left < 10; left++) {
            y.row(0, left, 1);
        }
        Lands.valley(y, "cost 1 s=1");
        due.is("a sum below 0", y.best(-1), -1);
    }

    private static void changesNothing() {
        ByLot x = new ByLot();
        for (int n = 0; n < 3; n++) {
            x.holding(n + 5);
            x.holder(n + 1, 9);
            x.lot(2 - n);
        }
        Lands.valley(x, "fall 1 s<99;bring 5 s>4;cost 2 s<99;pay 3");
        x.go(3);
        x.ever();
        x.rounds(0);
        x.pay();
        x.keep();
        x.swaps();
        x.alike(36);
        x.best(-1);
        x.expect(0, 0);
        x.looked(0, 0);
        x.tape(0, 0, 6);
        x.judge(0, 0, 36);
        due.is("year", x.count(3), 3);
        due.is("left", x.count(4), 6);
        due.is("round", x.set(0, 9), 9);
        for (int n = 0; n < 3; n++) {
            due.is("whose", x.of(n, 1), n);
        }
        due.is("purse", x.has(1, 3), 15 - 2 * 2);
        due.is("trace", x.count(8), 0);
    }
}
