/** Promises 8 to 15: holders, their kinds, rows, worth, years, the lot told by hand. */
public final class HoldersTest {
    private static final Due due = new Due();
    /** FALL 1 a year; what is above 4 brings 5; a step costs 2. */
    private static final String PLAIN_VALLEY = "fall 1 s<99;bring 5 s>4;cost 2 s<99;pay 3";

    public static void main(String[] args) {
        holders();
        rows();
        mends();
        would();
        worth();
        go();
        payAtLeaving();
        longReckonsBeyond();
        stepsAreFewer();
        lot();
        drawn();
        due.end("HoldersTest");
    }

    private static void holders() {
        ByLot x = new ByLot();
        due.is("kind 7", x.holder(7, 0), -1);
        due.is("kind -1", x.holder(-1, 0), -1);
        due.is("NONE ahead of BAD", x.holder(7, 10), -1);
        due.is("v 10", x.holder(0, 10), -2);
        due.is("v -1", x.holder(0, -1), -2);
        x.holding(5);
        for (int k = 0; k < 6; k++) {
            due.is("holder " + k, x.holder(k + 1, k), k);
            due.is("its kind", x.has(k, 0), k + 1);
            due.is("its v", x.has(k, 1), k);
            due.is("its holding", x.has(k, 2), k == 0 ? 0 : -5);
            due.is("its purse", x.has(k, 3), 0);
        }
        due.is("the seventh", x.holder(0, 0), -4);
        due.is("BAD ahead of FULL", x.holder(0, 10), -2);
        due.is("has(6, 0)", x.has(6, 0), -100001);
        due.is("has(-1, 0)", x.has(-1, 0), -100001);
        due.is("has(0, 4)", x.has(0, 4), -100001);
        due.is("has(0, -1)", x.has(0, -1), -100001);
    }

    private static void rows() {
        ByLot x = new ByLot();
        x.holder(6, 5);
        x.holder(2, 5);
        due.is("nothing yet", x.row(0, 9, 2), -5);
        due.is("2 then", x.row(0, 9, 0), 2);
        due.is("0 then", x.row(0, 9, -1), 0);
        due.is("nothing again", x.row(0, 9, 1), -5);
        due.is("another year", x.row(0, 1, 1), -5);
        due.is("left 0", x.row(0, 0, 1), -1);
        due.is("left 10", x.row(0, 10, 1), -1);
        due.is("no holder", x.row(2, 1, 1), -1);
        due.is("NONE ahead of BAD", x.row(2, 1, 3), -1);
        due.is("m 3", x.row(0, 1, 3), -2);
        due.is("m -2", x.row(0, 1, -2), -2);
        due.is("BAD ahead of STATE", x.row(1, 1, 3), -2);
        due.is("a POOR one has none", x.row(1, 1, 1), -3);
    }

    private static void mends() {
        ByLot x = new ByLot();
        x.holder(0, 9);
        x.holder(2, 5);
        x.holder(6, 5);
        due.is("no holding", x.mends(0), -5);
        due.is("no holder", x.mends(3), -1);
        due.is("no holder", x.mends(-1), -1);
        x.holding(0);
        x.holding(5);
        x.holding(4);
        due.is("HOLDER mends nothing", x.mends(0), 0);
        due.is("POOR: not below v", x.mends(1), 0);
        due.is("TOLD as POOR: below v", x.mends(2), 1);
        x.row(2, 9, 2);
        due.is("TOLD", x.mends(2), 2);
        x.set(1, 8);
        due.is("TOLD nothing for 8", x.mends(2), 1);
        Lands.valley(x, "cost 1 s=4");
        due.is("a PURSE below COST", x.mends(2), 0);
        x.row(2, 8, 1);
        due.is("TOLD whatever it costs", x.mends(2), 1);
    }

    private static void would() {
        ByLot x = new ByLot();
        x.holder(1, 0);
        x.holding(4);
        x.holding(9);
        Lands.valley(x, PLAIN_VALLEY);
        // From STATE 4 with one year: one step brings 5 for 2.
        due.is("PLAIN, last year", x.would(0, 0, 1), 1);
        // With two years a second step has the 5 once more.
        due.is("PLAIN, two years: two steps now or one and one", x.would(0, 0, 2), 1);
        due.is("from 9 on", x.would(0, 1, 1), 0);
        due.is("left 0", x.would(0, 0, 0), -2);
        due.is("left 10", x.would(0, 0, 10), -2);
        due.is("NONE ahead of BAD", x.would(0, 2, 10), -1);
        due.is("no holder", x.would(1, 0, 1), -1);
        due.is("no holding", x.would(0, -1, 1), -1);
    }

    private static void worth() {
        ByLot x = new ByLot();
        x.holder(1, 0);
        x.holder(4, 0);
        x.holder(5, 9);
        x.holder(3, 2);
        x.holder(2, 9);
        x.holder(0, 9);
        x.holding(4);
        x.holding(9);
        Lands.valley(x, PLAIN_VALLEY);
        due.is("PLAIN, one year", x.worth(0, 0, 1), 3);
        due.is("PLAIN, two years", x.worth(0, 0, 2), 6);
        due.is("PAID: 4 behind two steps, and a fall", x.worth(1, 0, 1), 5 - 4 + 3 * 5);
        due.is("SWAP: 9 times the STATE behind", x.worth(2, 0, 1), 5 - 4 + 9 * 5);
        due.is("LONG: three years", x.worth(3, 0, 1), 9);
        due.is("POOR: an empty purse pays no step", x.worth(4, 0, 9), 0);
        due.is("POOR: what comes pays the steps", x.worth(4, 1, 3), 5 + 3 + 3);
        due.is("HOLDER: five years of 9", x.worth(5, 1, 9), 25);
        due.is("no holder", x.worth(6, 0, 1), -100001);
        due.is("no holding", x.worth(0, 2, 1), -100001);
        due.is("NONE ahead of BAD", x.worth(0, 2, 0), -100001);
        due.is("left 0", x.worth(0, 0, 0), -100002);
        due.is("left 10", x.worth(0, 0, 10), -100002);
    }

    private static void go() {
        ByLot x = new ByLot();
        due.is("n 0", x.go(0), -2);
        due.is("n 37", x.go(37), -2);
        due.is("n -1", x.go(-1), -2);
        x.holder(2, 9);
        x.holding(6);
        x.holding(6);
        Lands.valley(x, "fall 2 p=99;fall 1 p=0;bring 5 s>4;cost 2 s<99");
        due.is("a year", x.go(1), 1);
        due.is("LEFT is one less", x.count(4), 8);
        due.is("its holder had no purse to mend", x.of(0, 0), 5);
        due.is("nobody's falls alike", x.of(1, 0), 4);
        due.is("the gain", x.has(0, 3), 5);
        due.is("the next years", x.go(2), 3);
        due.is("its holder mended", x.of(0, 0), 5);
        due.is("the gains", x.has(0, 3), 11);
        due.is("nobody's does not fall below 0", x.go(5), 8);
        due.is("0 it is", x.of(1, 0), 0);
        x.go(1);
        due.is("LEFT is ROUND again", x.count(4), 9);
        for (int n = 0; n < 27; n++) {
            x.go(36);
        }
        due.is("year", x.count(3), 981);
        due.is("19 years are too many", x.go(19), -3);
        due.is("nothing went", x.count(3), 981);
        due.is("BAD ahead of STATE", x.go(37), -2);
        due.is("18 are not", x.go(18), 999);
        due.is("one is", x.go(1), -3);
    }

    private static void payAtLeaving() {
        ByLot x = new ByLot();
        x.holder(0, 0);
        x.holder(0, 0);
        x.holding(9);
        Lands.valley(x, "fall 2 l=1;pay 7");
        x.go(8);
        due.is("no pay ahead of the lot", x.has(0, 3), 0);
        x.go(1);
        due.is("pay times STATE as it is then", x.has(0, 3), 49);
        due.is("without a holding none", x.has(1, 3), 0);
    }

    private static void longReckonsBeyond() {
        ByLot x = new ByLot();
        x.holder(3, 3);
        x.holding(0);
        Lands.valley(x, "bring 9 l<3&s>1;cost 8 s<99;fall 9 l=4");
        // With LEFT 1 a LONG one sees l 4: what it mends now is lost.
        due.is("it waits", x.would(0, 0, 1), 0);
        // With LEFT 2 it sees l 5, all the same.
        due.is("and waits", x.would(0, 0, 2), 0);
        due.is("the worth: two years of 9, two steps", x.worth(0, 0, 1), 2);
        Lands.valley(x, "bring 9 l<3&s>1;cost 8 s<99;cost 1 l<4");
        due.is("it mends as it is dearer later", x.would(0, 0, 1), 2);
    }

    private static void stepsAreFewer() {
        ByLot x = new ByLot();
        x.holder(6, 0);
        x.holding(8);
        x.row(0, 9, 2);
        x.row(0, 8, 2);
        Lands.valley(x, "cost 5 s<99");
        due.is("9 at most", x.mends(0), 1);
        x.go(1);
        due.is("STATE 9", x.of(0, 0), 9);
        due.is("one step was paid", x.has(0, 3), -5);
        due.is("none then", x.mends(0), 0);
        x.go(1);
        due.is("nothing was paid", x.has(0, 3), -5);
    }

    private static void lot() {
        ByLot x = new ByLot();
        for (int n = 0; n < 6; n++) {
            x.holding(n);
        }
        due.is("lot(6)", x.lot(6), -1);
        due.is("lot(-2)", x.lot(-2), -1);
        for (int n = 5; n >= 0; n--) {
            due.is("lot(" + n + ")", x.lot(n), 6 - n);
        }
        due.is("there already", x.lot(3), -3);
        due.is("count", x.count(5), 6);
        due.is("empty", x.lot(-1), 0);
        due.is("count", x.count(5), 0);
        due.is("again", x.lot(3), 1);
    }

    private static void drawn() {
        ByLot x = new ByLot();
        x.set(0, 1);
        for (int n = 0; n < 3; n++) {
            x.holding(n + 1);
            x.holder(0, 0);
        }
        x.holder(0, 0);
        x.lot(2);
        x.lot(0);
        x.go(1);
        due.is("a row that has not all: kept", x.has(0, 2), 0);
        x.lot(1);
        x.go(1);
        int[] has = {2, 0, 1, -5};
        for (int k = 0; k < has.length; k++) {
            due.is("drawn, holder " + k, x.has(k, 2), has[k]);
        }
        due.is("whose", x.of(2, 1), 0);
        due.is("the row stays", x.count(5), 3);
        due.is("a holding comes", x.holding(0), 3);
        due.is("the holder of its number had none", x.of(3, 1), 3);
        x.go(1);
        due.is("the row has not all then", x.has(0, 2), 2);
        fewerHolders();
    }

    private static void fewerHolders() {
        ByLot x = new ByLot();
        x.set(0, 2);
        x.holding(1);
        x.holding(2);
        x.holder(0, 0);
        x.lot(1);
        x.lot(0);
        x.go(1);
        due.is("not the last year", x.has(0, 2), 0);
        x.go(1);
        due.is("the lot", x.has(0, 2), 1);
        due.is("nobody's", x.of(0, 1), -5);
        x.holder(0, 0);
        due.is("a holding of its number that is another's", x.has(1, 2), -5);
    }
}
