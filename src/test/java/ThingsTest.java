/** Promises 1 to 5 and 33: a new object, PARTIES, AGREEMENTS, ARTICLES, the CLOCK, and how many there are. */
public final class ThingsTest {
    private static final int NONE = TreatyHouse.NONE;
    private static final Check check = new Check();

    public static void main(String[] args) {
        newObject();
        parties();
        agreements();
        articles();
        articlesOnceAPaperIsLodged();
        clock();
        counts();
        twoObjects();
        check.end();
    }

    private static void newObject() {
        TreatyHouse x = new TreatyHouse();
        check.due("1: NONE", TreatyHouse.NONE, -1);
        for (int what = 0; what <= 3; what++) {
            check.due("1: count(" + what + ")", x.count(what), 0);
        }
        check.due("1: count(10)", x.count(10), NONE);
        check.due("1: paper(0, 0)", x.paper(0, 0), NONE);
        check.due("1: noted(0)", x.noted(0), 0);
        check.due("1: undo()", x.undo(), NONE);
        check.due("1: members(0, 0, 0)", x.members(0, 0, 0), NONE);
        check.due("1: since(0)", x.since(0), NONE);
        check.due("1: sign(0, 0)", x.sign(0, 0), -2);
        check.due("1: size(0, 0)", x.size(0, 0), -2);
    }

    private static void parties() {
        TreatyHouse x = new TreatyHouse();
        for (int p = 0; p < 30; p++) {
            check.due("2: party()", x.party(), p);
        }
        check.due("2: the 31st party()", x.party(), NONE);
        check.due("2: the 32nd party()", x.party(), NONE);
        check.due("2: count(0)", x.count(0), 30);
        x.agreement(1, 1, 0, 0);
        check.due("2: sign(29, 0)", x.sign(29, 0), 0);
        check.due("2: sign(30, 0)", x.sign(30, 0), -2);
        check.due("2: join(29, 0)", x.join(29, 0), 1);
        check.due("2: member(29)", x.member(29, 0, 0, 0), 1);
    }

    private static void agreements() {
        TreatyHouse x = new TreatyHouse();
        int[][] wrong = {{0, 1, 0, 0}, {21, 1, 0, 0}, {-1, 1, 0, 0}, {1, 0, 0, 0}, {1, 11, 0, 0}, {1, -1, 0, 0},
            {1, 1, -1, 0}, {1, 1, 1001, 0}, {1, 1, 0, -1}, {1, 1, 0, 1001},
            {Integer.MIN_VALUE, 1, 0, 0}, {Integer.MAX_VALUE, 1, 0, 0}, {1, 1, Integer.MAX_VALUE, 0}};
        for (int[] w : wrong) {
            check.due("3: agreement with a wrong number", x.agreement(w[0], w[1], w[2], w[3]), NONE);
        }
        check.due("3: count(1)", x.count(1), 0);
        check.due("3: agreement(1, 1, 0, 0)", x.agreement(1, 1, 0, 0), 0);
        check.due("3: agreement(20, 10, 1000, 1000)", x.agreement(20, 10, 1000, 1000), 1);
        for (int g = 2; g < 10; g++) {
            check.due("3: agreement", x.agreement(g, g, g, g + 1), g);
        }
        check.due("3: the 11th", x.agreement(1, 1, 0, 0), NONE);
        check.due("3: count(1)", x.count(1), 10);
        check.due("3: count(20)", x.count(20), 20);
        check.due("3: count(21)", x.count(21), 10);
        check.due("3: count(22)", x.count(22), 1000);
        check.due("3: count(23)", x.count(23), 1000);
        check.due("3: count(103)", x.count(103), 10);
        for (int a = 0; a < 20; a++) {
            check.due("3: WORDS at first", x.article(1, a, 7), a + 1);
        }
    }

    private static void articles() {
        TreatyHouse x = new TreatyHouse();
        x.agreement(2, 1, 0, 0);
        x.agreement(2, 1, 0, 0);
        check.due("4: article(0, 1, 1)", x.article(0, 1, 1), 2);
        check.due("4: article(0, 1, 1000000)", x.article(0, 1, 1000000), 1);
        check.due("4: words 1000001", x.article(0, 1, 1000001), NONE);
        check.due("4: words 0", x.article(0, 1, 0), NONE);
        check.due("4: words -1", x.article(0, 1, -1), NONE);
        check.due("4: no ARTICLE 2", x.article(0, 2, 5), NONE);
        check.due("4: no ARTICLE -1", x.article(0, -1, 5), NONE);
        check.due("4: no AGREEMENT 2", x.article(2, 0, 5), NONE);
        check.due("4: no AGREEMENT -1", x.article(-1, 0, 5), NONE);
        check.due("4: refusals change nothing", x.article(0, 1, 9), 1000000);
        check.due("4: of the other ARTICLE", x.article(0, 0, 9), 1);
        check.due("4: of the other AGREEMENT", x.article(1, 1, 9), 2);
    }

    private static void articlesOnceAPaperIsLodged() {
        TreatyHouse x = Check.houseWith(2);
        x.agreement(1, 1, 0, 0);
        x.agreement(1, 1, 0, 0);
        x.note(8);
        check.due("4: a NOTE is about none", x.article(0, 0, 40), 1);
        x.sign(0, 0);
        check.due("4: a PAPER is LODGED", x.article(0, 0, 41), NONE);
        check.due("4: not about the other", x.article(1, 0, 42), 1);
        x.undo();
        check.due("4: it went again", x.article(0, 0, 43), 40);
        x.join(0, 0);
        x.join(1, 0);
        check.due("4: the WORDS bind", x.words(0, 1, 0, 0, 0, 0), 43);
        check.due("4: article then", x.article(0, 0, 44), NONE);
        check.due("4: the WORDS bind still", x.words(0, 1, 0, 0, 0, 0), 43);
        TreatyHouse y = Check.houseWith(1);
        y.agreement(1, 1, 0, 0);
        y.sign(0, 0);
        check.due("4: PAPER 0 alone", y.article(0, 0, 44), NONE);
    }

    private static void clock() {
        TreatyHouse x = new TreatyHouse();
        check.due("5: clock(-1)", x.clock(-1), false);
        check.due("5: clock(0)", x.clock(0), true);
        check.due("5: clock(5)", x.clock(5), true);
        check.due("5: clock(5) again", x.clock(5), true);
        check.due("5: clock(4)", x.clock(4), false);
        check.due("5: clock(73001)", x.clock(73001), false);
        check.due("5: clock(MAX)", x.clock(Integer.MAX_VALUE), false);
        check.due("5: clock(MIN)", x.clock(Integer.MIN_VALUE), false);
        check.due("5: count(3)", x.count(3), 5);
        check.due("5: clock(73000)", x.clock(73000), true);
        check.due("5: clock(72999)", x.clock(72999), false);
        check.due("5: count(3)", x.count(3), 73000);
    }

    private static void counts() {
        TreatyHouse x = Check.houseWith(3);
        x.agreement(3, 4, 5, 6);
        x.agreement(7, 8, 9, 10);
        x.clock(77);
        x.sign(0, 0);
        x.note(1);
        x.annex(1, 0, 1);
        x.annex(1, 3, 0);
        x.tear(1, 0);
        int[][] due = {{0, 3}, {1, 2}, {2, 2}, {3, 77}, {10, 3}, {11, 4}, {12, 5}, {13, 6}, {14, 0},
            {20, 7}, {21, 8}, {22, 9}, {23, 10}, {24, 2}};
        for (int[] row : due) {
            check.due("33: count(" + row[0] + ")", x.count(row[0]), row[1]);
        }
        int[] none = {-1, -10, 4, 5, 9, 15, 16, 19, 25, 29, 30, 34, 100, 110, 1000,
            Integer.MIN_VALUE, Integer.MAX_VALUE, Integer.MAX_VALUE - 7};
        for (int what : none) {
            check.due("33: count(" + what + ")", x.count(what), NONE);
        }
        x.undo();
        check.due("33: PAPERS after undo", x.count(2), 1);
        for (int g = 2; g < 10; g++) {
            x.agreement(g, 1, 0, 0);
        }
        check.due("33: count(100)", x.count(100), 9);
        check.due("33: count(110)", x.count(110), NONE);
    }

    private static void twoObjects() {
        TreatyHouse x = Check.houseWith(2);
        TreatyHouse y = Check.houseWith(1);
        x.agreement(1, 1, 0, 0);
        x.join(0, 0);
        x.clock(3);
        check.due("1: another object has its own PARTIES", y.count(0), 1);
        check.due("1: its own AGREEMENTS", y.count(1), 0);
        check.due("1: its own PAPERS", y.count(2), 0);
        check.due("1: its own CLOCK", y.count(3), 0);
    }
}
