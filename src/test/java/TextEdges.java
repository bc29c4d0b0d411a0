/** Edges of THE TEXT and the VALLEYS that are read from it, and of what they tell. */
final class TextEdges {
    private static final int MOST = Integer.MAX_VALUE, LEAST = Integer.MIN_VALUE;
    private static final String TEN = "pay 1;pay 2;pay 3;pay 4;pay 5;pay 6;pay 7;pay 8;pay 9;pay 10";
    /** 98 bytes; its E holds below 9. */
    private static final String NEARLY = "fall 1 s<9" + "|s<9".repeat(22);
    private final Edge edge;

    TextEdges(Edge edge) {
        this.edge = edge;
    }

    void all() {
        text();
        clauses();
        parts();
        joined();
        tests();
        nested();
        fault();
        newest();
        together();
        feed();
        feedRefused();
        valley();
        told();
        toldRefused();
    }

    private void fault(String text, int place) {
        edge.is("'" + text + "'", Lands.valley(new ByLot(), text), -10 - place);
    }

    private void stands(String text) {
        edge.is("'" + text + "'", Lands.valley(new ByLot(), text), 0);
    }

    /** With which STATES 0 .. 9 E holds, in HOLDING 2 of HOLDER 3 with 4 years LEFT. */
    private void holdsFor(String e, String states) {
        ByLot x = Lands.of("bring 1 " + e);
        StringBuilder all = new StringBuilder();
        for (int s = 0; s < 10; s++) {
            all.append(x.told(s, 4, 2, 3, 1) == 1 ? s : "");
        }
        edge.is("'" + e + "' holds for " + all, all.toString().equals(states) ? 1 : 0, 1);
    }

    private void text() {
        edge.says("Terms 1", "A VALLEY is read from THE TEXT (bytes, 100 at most):");
        ByLot x = new ByLot();
        Lands.feed(x, NEARLY.replaceFirst("s<9", "s<09").replaceFirst("s<9", "s<09"));
        edge.is("bytes", x.count(7), 100);
        edge.is("a byte more", x.feed(';', 1), -4);
        edge.is("a VALLEY of 100 bytes", x.valley(), 0);
        edge.is("it holds below 9", x.told(8, 1, 0, 0, 0), 1);
        edge.is("and not with 9", x.told(9, 1, 0, 0, 0), 0);
        fault("pay 1" + (char) 0, 5);
        fault("" + (char) 255, 0);
        fault("" + (char) ('p' + 128) + "ay 1", 0);
    }

    private void clauses() {
        edge.says("Terms 1", "CLAUSES, 1 to 10, with ; between:");
        fault("", 0);
        stands("pay 1");
        stands("pay 1;pay 2");
        stands(TEN);
        fault(TEN + ";", 60);
        fault(TEN + ";pay 1", 60);
        fault(";pay 1", 0);
        fault(";", 0);
        fault("pay 1;", 6);
        fault("pay 1;;pay 2", 6);
        fault("pay 1 ;pay 2", 5);
        fault("pay 1; pay 2", 6);
        fault("pay 1pay 2", 5);
        fault("pay 1,pay 2", 5);
    }

    private void parts() {
        edge.says("Terms 1", "fall n E; bring n E; cost n E; pay n; keep n");
        for (String word : new String[] {"fall", "bring", "cost"}) {
            stands(word + " 1 s=1");
            fault(word + " 1", word.length() + 2);
            fault(word + " s=1", word.length() + 1);
            fault(word + "s 1 s=1", word.length());
            fault(word.substring(1) + " 1 s=1", 0);
            fault(word.substring(0, 2) + " 1 s=1", 2);
        }
        for (String word : new String[] {"pay", "keep"}) {
            stands(word + " 1");
            fault(word + " 1 s=1", word.length() + 2);
            fault(word + " s=1", word.length() + 1);
            fault(word + "s 1", word.length());
        }
        fault("Fall 1 s=1", 0);
        fault("find 1 s=1", 1);
        edge.says("Terms 1", "(one blank ahead of each part behind the word; n 1 or 2 digits).");
        fault("pay1", 3);
        fault("pay  1", 4);
        fault("fall1 s=1", 4);
        fault("fall  1 s=1", 5);
        fault("fall 1s=1", 6);
        fault("fall 1  s=1", 7);
        fault("fall 1 s =1", 8);
        fault("fall 1 s=1 ", 10);
        fault(" pay 1", 0);
        fault("pay 1 ", 5);
        fault("pay\t1", 3);
        fault("pay ", 4);
        fault("pay -1", 4);
        fault("pay x", 4);
        fault("pay /", 4);
        fault("pay :", 4);
        fault("pay 1/", 5);
        fault("pay 1:", 5);
        stands("pay 0");
        stands("pay 00");
        stands("pay 99");
        fault("pay 100", 6);
        fault("pay 000", 6);
        fault("fall 100 s=1", 7);
        stands("fall 99 s=1");
    }

    private void joined() {
        edge.says("Terms 1", "E: T or T|E.");
        holdsFor("s=0", "0");
        holdsFor("s=0|s=9", "09");
        holdsFor("s=1|s=1|s=4|s=0|s=7", "0147");
        fault("fall 1 |s=1", 7);
        fault("fall 1 s=1|", 11);
        fault("fall 1 s=1||s=2", 11);
        edge.says("Terms 1", "T: F or F&T.");
        holdsFor("s>3&s<6", "45");
        holdsFor("s>3&s<8&s>5&l=4", "67");
        holdsFor("s=0|s=1&s=2", "0");
        holdsFor("s=1&s=2|s=0", "0");
        holdsFor("s<3&s>1|s<8&s>6|s=9", "279");
        fault("fall 1 &s=1", 7);
        fault("fall 1 s=1&", 11);
        fault("fall 1 s=1&&s=2", 11);
        fault("fall 1 s=1&|s=2", 11);
        fault("fall 1 s=1|&s=2", 11);
        edge.says("Terms 1", "E: T or T|E. T: F or F&T. F: !F, (E), or a TEST:");
        holdsFor("!s<8", "89");
        holdsFor("!!s<2", "01");
        holdsFor("!s<2&s<4", "23");
        holdsFor("!s>1|s=9", "019");
        holdsFor("!(s>1|s=9)", "01");
        holdsFor("!(s>1&s<9)", "019");
        holdsFor("(s=0|s=1)&s=1", "1");
        holdsFor("s=1&(s=0|s=1)", "1");
        holdsFor("((s=3))", "3");
        fault("fall 1 !", 8);
        fault("fall 1 (", 8);
        fault("fall 1 ()", 8);
        fault("fall 1 )", 7);
        fault("fall 1 (s=1", 11);
        fault("fall 1 (s=1;pay 1", 11);
        fault("fall 1 s=1)", 10);
        fault("fall 1 (s=1))", 12);
        fault("fall 1 (s=1)s=2", 12);
        fault("fall 1 s=1!s=2", 10);
        fault("fall 1 s=1(s=2)", 10);
    }

    private void tests() {
        edge.says("Terms 1", "a letter, < or = or >, a number (1 or 2 digits):");
        holdsFor("s<0", "");
        holdsFor("!s<0", "0123456789");
        holdsFor("s=3|s<0", "3");
        holdsFor("s=3&!s<0", "3");
        holdsFor("s<1", "0");
        holdsFor("s<9", "012345678");
        holdsFor("s<10", "0123456789");
        holdsFor("s=00", "0");
        holdsFor("s=09", "9");
        holdsFor("s=90", "");
        holdsFor("s>9", "");
        holdsFor("s>8", "9");
        holdsFor("s>0", "123456789");
        holdsFor("s<99", "0123456789");
        fault("fall 1 s", 8);
        fault("fall 1 s=", 9);
        fault("fall 1 1=1", 7);
        fault("fall 1 S=1", 7);
        fault("fall 1 v=1", 7);
        fault("fall 1 ss=1", 8);
        fault("fall 1 s1", 8);
        fault("fall 1 s==1", 9);
        fault("fall 1 s<=1", 9);
        fault("fall 1 s<>1", 9);
        fault("fall 1 s=-1", 9);
        fault("fall 1 s=s", 9);
        fault("fall 1 s=100", 11);
        edge.says("Terms 1", "s the STATE, l LEFT, i the HOLDING's number, p the HOLDER's number.");
        ByLot x = Lands.of("bring 1 s=9&l=18&i=5&p=5;bring 2 s=0&l=1&i=0&p=0;bring 4 l>18|i>5|p>5|s>9;cost 1 s=3&l=6&i=2&p=4");
        edge.is("the greatest of all", x.told(9, 18, 5, 5, 1), 1);
        edge.is("the least of all", x.told(0, 1, 0, 0, 1), 2);
        edge.is("each its own", x.told(3, 6, 2, 4, 2), 1);
        byLetter();
        edge.is("another STATE", x.told(4, 6, 2, 4, 2), 0);
        edge.is("another LEFT", x.told(3, 5, 2, 4, 2), 0);
        edge.is("another HOLDING", x.told(3, 6, 1, 4, 2), 0);
        edge.is("another HOLDER", x.told(3, 6, 2, 3, 2), 0);
    }

    /** Each letter with each sign and number, for STATE 3, LEFT 7, HOLDING 0 and HOLDER 1. */
    private void byLetter() {
        int[] asked = {3, 7, 0, 1};
        for (int letter = 0; letter < 4; letter++) {
            for (int n : new int[] {0, 1, 2, 3, 4, 6, 7, 8, 9, 10, 18, 19, 98, 99}) {
                int[] want = {asked[letter] < n ? 1 : 0, asked[letter] == n ? 1 : 0, asked[letter] > n ? 1 : 0};
                for (int sign = 0; sign < 3; sign++) {
                    String e = "" + "slip".charAt(letter) + "<=>".charAt(sign) + n;
                    edge.is(e, Lands.of("cost 1 " + e).told(3, 7, 0, 1, 2), want[sign]);
                }
            }
        }
    }

    private void nested() {
        edge.says("Terms 1", "A ( or ! within 4 others is none.");
        holdsFor("s=0|s>0&(s=1|s>1&(s=2|s>2&(s=3|s>3&(s=4|s>4&s=5))))", "012345");
        holdsFor("((((s<6&s>3)&s>1)&s>2)&s<9)|s=9", "459");
        holdsFor("!!!!s=1", "1");
        holdsFor("((((s=1))))", "1");
        holdsFor("!(!(s=1))", "1");
        fault("fall 1 !!!!!s=1", 11);
        fault("fall 1 (((((s=1)))))", 11);
        fault("fall 1 !(!(!s=1))", 11);
        fault("fall 1 (!(!(s=1)))", 11);
        fault("fall 1 (((!!s=1)))", 11);
        fault("fall 1 ((((s=1&!s=2))))", 15);
        fault("fall 1 ((((s=1|(s=2)))))", 15);
        stands("fall 1 !!!!s=1&!!!!s=2|!!!!s=3");
        stands("fall 1 ((((s=1))))&((((s=2))))|((((s=3))))");
        stands("fall 1 (((!s=1&!s=2|!s=3)))");
        stands("fall 1 !!!!s=1;fall 1 ((((s=1))))");
        fault("fall 1 ((((s=1))))&(((((s=1)))))", 23);
        fault("fall 1 s=1;fall 1 !!!!!", 22);
    }

    private void fault() {
        edge.says("Terms 1", "The FAULT: the place of the first byte with which none begins so"
            + " (the end of THE TEXT, if it ends too early).");
        String text = "cost 12 !(s<10&p>2)|l=3;keep 7";
        for (int n = 0; n < text.length(); n++) {
            String start = text.substring(0, n);
            // Ahead of what only may follow, it may end.
            if (n == text.indexOf("|") || n == text.indexOf(";")) {
                stands(start);
            } else {
                fault(start, n);
            }
            fault(start + "?", n);
            fault(start + "?" + text.substring(n), n);
        }
        stands(text);
        fault(NEARLY + "|s", 100);
        fault(NEARLY + "|?", 99);
        fault("?" + NEARLY + "?", 0);
    }

    private void newest() {
        edge.says("Terms 1", "The newest VALLEY holds (5 at most);");
        ByLot x = new ByLot();
        for (int n = 0; n < 5; n++) {
            edge.is("VALLEY " + n, Lands.valley(x, "pay " + (n + 1)), n);
            edge.is("it holds", x.told(0, 1, 0, 0, 3), n + 1);
        }
        edge.is("a sixth", Lands.valley(x, "pay 6"), -4);
        edge.is("the fifth holds", x.told(0, 1, 0, 0, 3), 5);
        x = Lands.of("fall 3 s<9;bring 4 s<9;cost 5 s<9;pay 6;keep 7");
        for (int what = 0; what < 5; what++) {
            edge.is("the first, what " + what, x.told(2, 2, 2, 2, what), what + 3);
        }
        Lands.valley(x, "fall 1 s>9");
        for (int what = 0; what < 5; what++) {
            edge.is("nothing of the first, what " + what, x.told(2, 2, 2, 2, what), 0);
        }
        edge.says("Terms 1", "without one there are no CLAUSES.");
        x = Lands.with(Lands.of("", 9, 0), 1, 0, 6, 9);
        x.row(1, 9, 2);
        for (int what = 0; what < 5; what++) {
            edge.is("told what " + what, x.told(9, 18, 5, 5, what), 0);
        }
        edge.is("no better row", x.mends(0), 0);
        x.go(9);
        edge.is("nothing falls", x.of(0, 0), 9);
        edge.is("nothing costs", x.of(1, 0), 9);
        edge.is("nothing is paid", x.has(0, 3), 0);
        edge.is("nothing is paid", x.has(1, 3), 0);
        Lands.valley(x, "pay");
        edge.is("nor behind a fault", x.told(0, 1, 0, 0, 3), 0);
    }

    private void together() {
        edge.says("Terms 1", "FALL, BRING, COST: the n of all such whose E holds, together (FALL 9 at most).");
        ByLot x = Lands.of("fall 4 s<5;fall 4 s<4;fall 1 s<3;fall 1 s<2;fall 99 s=0");
        int[] falls = {9, 9, 9, 8, 4, 0};
        for (int s = 0; s < falls.length; s++) {
            edge.is("FALL of " + s, x.told(s, 1, 0, 0, 0), falls[s]);
        }
        x = Lands.of("bring 99 s<9;bring 99 s<8;bring 99 s<7;cost 99 s<9;cost 98 s<8");
        edge.is("all BRING", x.told(6, 1, 0, 0, 1), 297);
        edge.is("two BRING", x.told(7, 1, 0, 0, 1), 198);
        edge.is("no BRING", x.told(9, 1, 0, 0, 1), 0);
        edge.is("both COST", x.told(7, 1, 0, 0, 2), 197);
        edge.is("no COST", x.told(9, 1, 0, 0, 2), 0);
        edge.is("no FALL", x.told(0, 1, 0, 0, 0), 0);
        edge.says("Terms 1", "pay, keep: the last one's n (0 without).");
        x = Lands.of("pay 9;keep 8;pay 7;pay 3;keep 99");
        edge.is("the last pay", x.told(0, 1, 0, 0, 3), 3);
        edge.is("the last keep", x.told(0, 1, 0, 0, 4), 99);
        x = Lands.of("pay 9;keep 8;pay 0;keep 00");
        edge.is("the last pay is 0", x.told(0, 1, 0, 0, 3), 0);
        edge.is("the last keep is 0", x.told(0, 1, 0, 0, 4), 0);
        Lands.valley(x, "pay 5");
        edge.is("without keep", x.told(0, 1, 0, 0, 4), 0);
        Lands.valley(x, "keep 6");
        edge.is("without pay", x.told(0, 1, 0, 0, 3), 0);
    }

    private void feed() {
        edge.says("Promise 5", "The n lowest bytes of a number, the highest first (n 0 .. 4), come behind THE TEXT's:");
        ByLot x = new ByLot();
        x.feed(-1, 0);
        x.feed('k' << 24 | 'e' << 16 | 'e' << 8 | 'p', 4);
        x.feed(0xff << 8 | ' ', 1);
        x.feed('0' << 24 | '0' << 16 | '4' << 8 | '2', 2);
        edge.is("keep 42", x.valley(), 0);
        edge.is("it is 42", x.told(0, 1, 0, 0, 4), 42);
        x.feed(0xff706179, 3);
        x.feed(0x2037, 2);
        edge.is("pay 7, of a number below 0", x.valley(), 1);
        x.feed(0xff706179, 4);
        edge.is("the highest of four was first", x.valley(), -10);
        x.feed(LEAST | 'p', 1);
        x.feed(LEAST | 'a' << 8 | 'y', 2);
        x.feed(LEAST, 1);
        edge.is("a byte of 0", x.valley(), -13);
        edge.says("Promise 5", ": how many it has.");
        x = new ByLot();
        edge.is("n 0, at first", x.feed(MOST, 0), 0);
        int[] have = {1, 3, 6, 10, 10};
        for (int n = 1; n <= 4; n++) {
            edge.is("n " + n, x.feed(LEAST, n), have[n - 1]);
        }
        edge.is("n 0", x.feed(LEAST, 0), 10);
    }

    private void feedRefused() {
        edge.says("Promise 5", "BAD;");
        for (int n : new int[] {-1, 5, LEAST, MOST}) {
            edge.stays("n " + n, Lands::busy, y -> y.feed('1', n), -2);
            edge.stays("n " + n + " with 100 bytes: named first", Lands::full, y -> y.feed('1', n), -2);
        }
        edge.says("Promise 5", "FULL.");
        for (int n = 1; n <= 4; n++) {
            int more = n;
            edge.stays("n " + n + " with 100 bytes", Lands::full, y -> y.feed('1', more), -4);
            ByLot x = new ByLot();
            Lands.feed(x, "1".repeat(100 - n));
            edge.is("to 100 bytes by " + n, x.feed('1', n), 100);
            x = new ByLot();
            Lands.feed(x, "1".repeat(101 - n));
            edge.is("to 101 bytes by " + n, x.feed('1', n), -4);
            edge.is("none of " + n + " came", x.count(7), 101 - n);
        }
        edge.is("n 0 with 100 bytes", Lands.full().feed('1', 0), 100);
    }

    private void valley() {
        edge.says("Promise 6", "THE TEXT, which is empty then, is a VALLEY, and holds: its number.");
        ByLot x = new ByLot();
        edge.is("the first", Lands.valley(x, "pay 5"), 0);
        edge.is("empty then", x.count(7), 0);
        edge.is("it holds", x.told(0, 1, 0, 0, 3), 5);
        edge.is("the second", Lands.valley(x, "keep 5"), 1);
        edge.is("it holds", x.told(0, 1, 0, 0, 4), 5);
        edge.is("nothing of the first", x.told(0, 1, 0, 0, 3), 0);
        edge.says("Promise 6", "FULL: there are 5 (THE TEXT stays);");
        edge.stays("five, and 100 bytes", Lands::full, ByLot::valley, -4);
        x = new ByLot();
        for (int n = 0; n < 5; n++) {
            Lands.valley(x, "pay 1");
        }
        edge.is("five, and no TEXT: named first", x.valley(), -4);
        Lands.feed(x, "fall");
        edge.is("five, and a fault: named first", x.valley(), -4);
        edge.is("THE TEXT stays", x.count(7), 4);
        edge.is("and what comes comes behind", x.feed(' ', 1), 5);
        edge.says("Promise 6", "-10 less the FAULT (the one that held holds).");
        x = Lands.of("pay 5");
        edge.is("FAULT 0", x.valley(), -10);
        edge.is("FAULT 99", Lands.valley(x, NEARLY + "|?"), -109);
        edge.is("FAULT 100", Lands.valley(x, NEARLY + "|s"), -110);
        edge.is("a FAULT behind a clause", Lands.valley(x, "pay 9;fall 3 s<9;"), -27);
        edge.is("the one that held holds", x.told(0, 1, 0, 0, 3), 5);
        edge.is("it alone", x.told(0, 1, 0, 0, 0), 0);
        edge.is("one VALLEY", x.count(2), 1);
        edge.is("the next one's number", Lands.valley(x, "keep 1"), 1);
        edge.is("nothing of the faulty ones", x.told(0, 1, 0, 0, 3), 0);
        edge.is("nothing of the faulty ones", x.told(0, 1, 0, 0, 0), 0);
        edge.is("another FAULT", Lands.valley(x, "keep 7;pay 8;cost 9 s<9;bring 9 s<9;"), -46);
        edge.is("the next", Lands.valley(x, "bring 2 s>4"), 2);
        int[] want = {0, 2, 0, 0, 0};
        for (int what = 0; what < 5; what++) {
            edge.is("its own, what " + what, x.told(5, 1, 0, 0, what), want[what]);
            edge.is("nothing of the faulty one, what " + what, x.told(4, 1, 0, 0, what), 0);
        }
        edge.is("a FAULT behind a !", Lands.valley(x, "fall 1 !s<5;"), -22);
        edge.is("the next has no !", Lands.valley(x, "fall 1 s<5"), 3);
        edge.is("below 5", x.told(4, 1, 0, 0, 0), 1);
        edge.is("not below 5", x.told(5, 1, 0, 0, 0), 0);
    }

    private void told() {
        edge.says("Promise 7", "For a STATE (0 .. 9), LEFT (1 .. 18), a HOLDING and a HOLDER (numbers 0 .. 5, there or not)"
            + " what 0 FALL, 1 BRING, 2 COST;");
        ByLot x = Lands.of("fall 3 i=5;bring 20 p=5;cost 50 l=18;fall 1 l=1;bring 4 i=0&p=0;cost 2 s=9");
        int[][] cells = {{0, 18, 5, 5, 0, 3}, {0, 18, 5, 5, 1, 20}, {0, 18, 5, 5, 2, 50}, {9, 18, 5, 5, 2, 52},
            {0, 1, 0, 0, 0, 1}, {0, 1, 0, 0, 1, 4}, {0, 1, 0, 0, 2, 0}, {9, 1, 0, 0, 2, 2}, {0, 1, 5, 0, 0, 4}};
        for (int[] c : cells) {
            edge.is("told(" + c[0] + ", " + c[1] + ", " + c[2] + ", " + c[3] + ", " + c[4] + ")",
                x.told(c[0], c[1], c[2], c[3], c[4]), c[5]);
        }
        edge.says("Promise 7", "what 3 pay, 4 keep.");
        x = Lands.of("pay 0;pay 99;keep 98");
        edge.is("pay", x.told(0, 1, 0, 0, 3), 99);
        edge.is("keep", x.told(9, 18, 5, 5, 4), 98);
    }

    private void toldRefused() {
        edge.says("Promise 7", "NONE: holding, holder, what;");
        for (int n : new int[] {-1, 6, LEAST, MOST}) {
            edge.stays("HOLDING " + n, Lands::busy, x -> x.told(0, 1, n, 0, 0), -1);
            edge.is("HOLDING " + n + ", what 3", Lands.busy().told(0, 1, n, 0, 3), -1);
            edge.is("HOLDING " + n + ", STATE 10: named first", Lands.busy().told(10, 1, n, 0, 0), -1);
            edge.is("HOLDER " + n, Lands.busy().told(0, 1, 0, n, 0), -1);
            edge.is("HOLDER " + n + ", LEFT 0: named first", Lands.busy().told(0, 0, 0, n, 4), -1);
        }
        for (int what : new int[] {-1, 5, LEAST, MOST}) {
            edge.is("what " + what, Lands.busy().told(0, 1, 0, 0, what), -1);
            edge.is("what " + what + ", LEFT 19: named first", Lands.busy().told(0, 19, 0, 0, what), -1);
        }
        edge.says("Promise 7", "BAD.");
        for (int what = 0; what < 5; what++) {
            for (int state : new int[] {-1, 10, LEAST, MOST}) {
                edge.is("STATE " + state + ", what " + what, Lands.busy().told(state, 1, 0, 0, what), -2);
            }
            for (int left : new int[] {-1, 0, 19, LEAST, MOST}) {
                edge.is("LEFT " + left + ", what " + what, Lands.busy().told(0, left, 0, 0, what), -2);
            }
        }
        edge.stays("STATE 10, LEFT 19", Lands::busy, x -> x.told(10, 19, 0, 0, 0), -2);
    }
}
