/** Promises 17 to 24: who IS A PARTY, what it HAS, and BETWEEN two: ANSWER, WORDS and WHY, since when. */
public final class BetweenTest {
    private static final int NONE = TreatyHouse.NONE;
    private static final Check check = new Check();

    public static void main(String[] args) {
        wrongNumbers();
        members();
        membersAsKnown();
        needed();
        whyTheNeeded();
        reserved();
        theGreatestReserve();
        leftOut();
        theLeastMildObject();
        strongObject();
        theLeastStrongObject();
        strongAheadOfAll();
        changed();
        whyChanged();
        changedAsKnown();
        followWithPapers();
        followWithoutPapers();
        followStoodAhead();
        followChain();
        whySources();
        has();
        first();
        firstByWordsAlone();
        since();
        lastDays();
        check.end();
    }

    private static void due(String call, TreatyHouse x, int p, int q, int a, int d, int k, int answer, int words) {
        String name = call + ": between(" + p + ", " + q + ", 0, " + a + ", " + d + ", " + k + ")";
        check.due("17 " + name, x.between(p, q, 0, a, d, k), answer);
        check.due("17 " + name + " the other way", x.between(q, p, 0, a, d, k), answer);
        check.due("18 " + name, x.words(p, q, 0, a, d, k), words);
        check.due("18 " + name + " the other way", x.words(q, p, 0, a, d, k), words);
    }

    private static void dueWhy(String call, TreatyHouse x, int p, int q, int a, int d, int k, int... due) {
        String name = "19 " + call + ": why(" + p + ", " + q + ", 0, " + a + ", " + d + ", " + k + ")";
        check.dueRow(name, Check.why(x, p, q, 0, a, d, k), due);
        check.due(name + " behind the last", x.why(p, q, 0, a, d, k, due.length), NONE);
        check.due(name + " number -1", x.why(p, q, 0, a, d, k, -1), NONE);
    }

    private static TreatyHouse joined(int parties, int articles, int needed, int wait) {
        TreatyHouse x = Check.houseWith(parties);
        x.agreement(articles, needed, wait, 1000);
        for (int p = 0; p < parties; p++) {
            x.join(p, 0);
        }
        return x;
    }

    private static void wrongNumbers() {
        TreatyHouse x = joined(3, 2, 1, 0);
        int max = Integer.MAX_VALUE;
        int min = Integer.MIN_VALUE;
        int[][] wrong = {{-1, 1, 0, 0, 0, 0}, {3, 1, 0, 0, 0, 0}, {0, -1, 0, 0, 0, 0}, {0, 3, 0, 0, 0, 0},
            {1, 1, 0, 0, 0, 0}, {0, 1, -1, 0, 0, 0}, {0, 1, 1, 0, 0, 0}, {0, 1, 0, -1, 0, 0}, {0, 1, 0, 2, 0, 0},
            {0, 1, 0, 0, -1, 0}, {0, 1, 0, 0, 73001, 0}, {0, 1, 0, 0, 0, -1}, {0, 1, 0, 0, 0, 73001},
            {min, max, min, max, min, max}};
        for (int[] w : wrong) {
            check.due("17: a wrong number", x.between(w[0], w[1], w[2], w[3], w[4], w[5]), NONE);
            check.due("18: a wrong number", x.words(w[0], w[1], w[2], w[3], w[4], w[5]), NONE);
            check.due("19: a wrong number", x.why(w[0], w[1], w[2], w[3], w[4], w[5], 0), NONE);
            if (w[4] == 0 && w[5] == 0) {
                check.due("20: a wrong number", x.first(w[0], w[1], w[2], w[3]), NONE);
            }
        }
        int[][] wrongOne = {{-1, 0, 0, 0}, {3, 0, 0, 0}, {0, -1, 0, 0}, {0, 1, 0, 0}, {0, 0, -1, 0}, {0, 0, 73001, 0},
            {0, 0, 0, -1}, {0, 0, 0, 73001}};
        x.change(0, 0, 0, 5);
        for (int[] w : wrongOne) {
            check.due("21: a wrong number", x.member(w[0], w[1], w[2], w[3]), NONE);
            check.due("24: a wrong number", x.has(w[0], w[1], w[2], w[3], 0), NONE);
            if (w[0] == 0) {
                check.due("22: a wrong number", x.members(w[1], w[2], w[3]), NONE);
            }
        }
        check.due("23: no AGREEMENT 1", x.since(1), NONE);
        check.due("23: no AGREEMENT -1", x.since(-1), NONE);
        due("the last DAY", x, 0, 1, 1, 73000, 73000, 1, 2);
        check.due("21: the last DAY", x.member(2, 0, 73000, 73000), 2);
        check.due("22: the last DAY", x.members(0, 73000, 73000), 3);
        check.due("19: i MIN", x.why(0, 1, 0, 0, 0, 0, min), NONE);
        check.due("19: i MAX", x.why(0, 1, 0, 0, 0, 0, max), NONE);
        check.due("24: i MIN", x.has(0, 0, 0, 0, min), NONE);
        check.due("24: i MAX", x.has(0, 0, 0, 0, max), NONE);
    }

    private static void members() {
        TreatyHouse x = Check.houseWith(3);
        x.agreement(1, 1, 5, 0);
        x.agreement(1, 1, 0, 0);
        check.due("22: none", x.members(0, 0, 0), 0);
        x.sign(2, 0);
        x.join(0, 0);
        x.clock(2);
        x.ratify(2, 0);
        x.join(1, 1);
        check.due("21: ahead of the EFFECT", x.member(0, 0, 4, 2), NONE);
        check.due("21: on the EFFECT", x.member(0, 0, 5, 2), 1);
        check.due("21: signed alone", x.member(2, 0, 6, 2), NONE);
        check.due("21: ratified", x.member(2, 0, 7, 2), 2);
        check.due("21: to another AGREEMENT", x.member(1, 0, 7, 2), NONE);
        check.due("21: to that one", x.member(1, 1, 2, 2), 3);
        check.due("22: on 4", x.members(0, 4, 2), 0);
        check.due("22: on 5", x.members(0, 5, 2), 1);
        check.due("22: on 7", x.members(0, 7, 2), 2);
        check.due("22: of the other", x.members(1, 7, 2), 1);
        x.clock(10);
        x.withdraw(0, 1);
        x.join(0, 0);
        check.due("21: ahead of the WITHDRAW's EFFECT", x.member(0, 0, 14, 10), 1);
        check.due("21: on it", x.member(0, 0, 15, 10), 5);
        check.due("22: one MEMBERSHIP each", x.members(0, 15, 10), 2);
        x.clock(12);
        x.withdraw(0, 5);
        check.due("21: the second withdrawn", x.member(0, 0, 17, 12), NONE);
        check.due("21: the DAY ahead", x.member(0, 0, 16, 12), 5);
        check.due("22: one is left", x.members(0, 17, 12), 1);
        check.due("21: p BELONGS no longer", x.join(0, 0), 7);
    }

    private static void membersAsKnown() {
        TreatyHouse x = Check.houseWith(2);
        x.agreement(1, 1, 2, 0);
        x.clock(4);
        x.join(0, 0);
        x.clock(6);
        x.withdraw(0, 0);
        x.clock(9);
        check.due("21: not LODGED yet", x.member(0, 0, 20, 3), NONE);
        check.due("21: LODGED", x.member(0, 0, 20, 4), 0);
        check.due("21: its WITHDRAW not LODGED yet", x.member(0, 0, 20, 5), 0);
        check.due("21: its WITHDRAW LODGED", x.member(0, 0, 20, 6), NONE);
        check.due("21: its WITHDRAW without its EFFECT", x.member(0, 0, 7, 6), 0);
        check.due("22: as known on 3", x.members(0, 7, 3), 0);
        check.due("22: as known on 5", x.members(0, 8, 5), 1);
        check.due("22: as known on 6", x.members(0, 8, 6), 0);
        check.due("22: as known beyond the CLOCK", x.members(0, 7, 73000), 1);
    }

    private static void needed() {
        TreatyHouse x = Check.houseWith(4);
        x.agreement(1, 3, 0, 0);
        x.join(0, 0);
        x.join(1, 0);
        due("two of three NEEDED", x, 0, 1, 0, 0, 0, 0, 0);
        dueWhy("two of three NEEDED", x, 0, 1, 0, 0, 0);
        x.clock(1);
        x.join(3, 0);
        due("the third", x, 0, 1, 0, 1, 1, 1, 1);
        due("the DAY ahead", x, 0, 1, 0, 0, 1, 0, 0);
        due("the third not known", x, 0, 1, 0, 1, 0, 0, 0);
        due("one is none", x, 0, 2, 0, 1, 1, 0, 0);
        dueWhy("one is none", x, 0, 2, 0, 1, 1);
        dueWhy("the third", x, 0, 1, 0, 1, 1, 0, 1, 2);
        x.clock(2);
        x.withdraw(3, 2);
        due("two again", x, 0, 1, 0, 2, 2, 0, 0);
    }

    private static void whyTheNeeded() {
        TreatyHouse x = Check.houseWith(5);
        x.agreement(1, 2, 0, 0);
        for (int p = 4; p >= 0; p--) {
            x.join(p, 0);
        }
        dueWhy("the PARTIES with the least numbers, not the PAPERS", x, 2, 3, 0, 0, 0, 1, 2, 3, 4);
        dueWhy("they themselves", x, 0, 1, 0, 0, 0, 3, 4);
        dueWhy("one of both", x, 0, 4, 0, 0, 0, 0, 3, 4);
        dueWhy("none of what was asked before", x, 0, 1, 0, 0, 0, 3, 4);
        x.withdraw(1, 3);
        dueWhy("the next one", x, 3, 4, 0, 0, 0, 0, 1, 2, 4);
    }

    private static void reserved() {
        TreatyHouse x = joined(3, 2, 1, 3);
        x.clock(10);
        x.reserve(0, 0, 1, 50);
        due("ahead of its EFFECT", x, 0, 1, 1, 12, 10, 1, 2);
        due("on its EFFECT", x, 0, 1, 1, 13, 10, 2, 50);
        due("not known", x, 0, 1, 1, 13, 9, 1, 2);
        due("the other ARTICLE", x, 0, 1, 0, 13, 10, 1, 1);
        due("two others", x, 1, 2, 1, 13, 10, 1, 2);
        dueWhy("the RESERVE", x, 1, 0, 1, 13, 10, 0, 1, 3);
        dueWhy("the other ARTICLE", x, 0, 2, 0, 13, 10, 0, 2);
        x.clock(20);
        x.withdraw(0, 3);
        due("withdrawn, the DAY ahead", x, 0, 1, 1, 22, 20, 2, 50);
        due("withdrawn", x, 0, 1, 1, 23, 20, 1, 2);
        due("withdrawn, not known", x, 0, 1, 1, 23, 19, 2, 50);
    }

    private static void theGreatestReserve() {
        TreatyHouse x = joined(3, 2, 1, 0);
        x.reserve(0, 0, 0, 60);
        x.reserve(1, 0, 0, 61);
        x.reserve(0, 0, 1, 62);
        x.reserve(2, 0, 0, 63);
        due("of both", x, 0, 1, 0, 0, 0, 2, 61);
        due("of the other", x, 0, 2, 0, 0, 0, 2, 63);
        due("of one ARTICLE alone", x, 0, 1, 1, 0, 0, 2, 62);
        dueWhy("r alone", x, 0, 1, 0, 0, 0, 0, 1, 4);
        x.object(1, 3, true);
        due("a mild OBJECT to a lesser one", x, 0, 1, 0, 0, 0, 2, 61);
        x.withdraw(1, 4);
        due("the lesser one now", x, 0, 1, 0, 0, 0, 3, 0);
        dueWhy("the lesser one now", x, 0, 1, 0, 0, 0, 0, 1, 3, 7);
        x.reserve(0, 0, 0, 64);
        due("a later one of its", x, 0, 1, 0, 0, 0, 2, 64);
    }

    private static void leftOut() {
        TreatyHouse x = joined(3, 1, 1, 0);
        x.reserve(0, 0, 0, 0);
        due("with 0", x, 0, 1, 0, 0, 0, 3, 0);
        dueWhy("with 0", x, 0, 1, 0, 0, 0, 0, 1, 3);
        x.object(1, 3, true);
        due("with 0, and mild", x, 0, 1, 0, 0, 0, 3, 0);
        dueWhy("with 0, the mild one tells nothing", x, 0, 1, 0, 0, 0, 0, 1, 3);
        x.reserve(0, 0, 0, 9);
        x.object(1, 5, true);
        due("mild", x, 0, 1, 0, 0, 0, 3, 0);
        due("to the one that has no OBJECT", x, 0, 2, 0, 0, 0, 2, 9);
        dueWhy("mild", x, 0, 1, 0, 0, 0, 0, 1, 5, 6);
        dueWhy("to the one that has no OBJECT", x, 0, 2, 0, 0, 0, 0, 2, 5);
        x.clock(5);
        x.withdraw(1, 6);
        due("the OBJECT withdrawn", x, 0, 1, 0, 5, 5, 2, 9);
        due("the DAY ahead", x, 0, 1, 0, 4, 5, 3, 0);
    }

    private static void theLeastMildObject() {
        TreatyHouse x = Check.houseWith(3);
        x.agreement(1, 1, 1, 100);
        x.join(0, 0);
        x.join(1, 0);
        x.clock(5);
        x.reserve(0, 0, 0, 9);
        x.object(1, 2, true);
        x.clock(6);
        x.follow(2, 1, 0, true);
        x.object(2, 2, true);
        due("both mild", x, 0, 2, 0, 7, 6, 3, 0);
        check.dueRow("24: both OBJECTS", Check.has(x, 2, 0, 7, 6), 3, 5);
        dueWhy("the least of them", x, 0, 2, 0, 7, 6, 0, 1, 2, 3, 4);
        x.clock(8);
        x.withdraw(2, 3);
        dueWhy("the other one now", x, 0, 2, 0, 9, 8, 0, 1, 2, 4, 5);
    }

    private static void strongObject() {
        TreatyHouse x = joined(4, 2, 1, 2);
        x.clock(10);
        x.reserve(0, 0, 1, 9);
        x.object(1, 4, false);
        due("its RESERVE without EFFECT", x, 0, 1, 1, 11, 10, 1, 2);
        due("strong", x, 0, 1, 1, 12, 10, 0, 0);
        due("of any ARTICLE", x, 0, 1, 0, 12, 10, 0, 0);
        due("another", x, 0, 2, 1, 12, 10, 2, 9);
        due("others", x, 1, 2, 1, 12, 10, 1, 2);
        dueWhy("strong", x, 0, 1, 0, 12, 10, 0, 1, 4, 5);
        x.clock(20);
        x.withdraw(0, 4);
        due("the RESERVE withdrawn, without EFFECT", x, 0, 1, 0, 21, 20, 0, 0);
        due("the RESERVE withdrawn", x, 0, 1, 0, 22, 20, 1, 1);
        x.clock(21);
        x.reserve(2, 0, 0, 0);
        x.object(3, 7, false);
        due("the other way round", x, 3, 2, 1, 23, 21, 0, 0);
        x.withdraw(3, 8);
        due("withdrawn at once", x, 3, 2, 0, 23, 21, 3, 0);
    }

    private static void theLeastStrongObject() {
        TreatyHouse x = joined(3, 2, 3, 0);
        x.reserve(0, 0, 0, 9);
        x.reserve(1, 0, 1, 8);
        x.object(0, 4, false);
        x.object(1, 3, false);
        due("both ways", x, 0, 1, 0, 0, 0, 0, 0);
        dueWhy("the least, and not the NEEDED", x, 0, 1, 0, 0, 0, 0, 1, 4, 5);
        dueWhy("whoever asks", x, 1, 0, 1, 0, 0, 0, 1, 4, 5);
        x.withdraw(0, 5);
        dueWhy("the other one now", x, 0, 1, 0, 0, 0, 0, 1, 3, 6);
    }

    private static void strongAheadOfAll() {
        TreatyHouse x = joined(2, 1, 1, 0);
        x.reserve(0, 0, 0, 0);
        x.reserve(1, 0, 0, 7);
        x.object(0, 3, true);
        x.object(1, 2, false);
        x.change(0, 0, 0, 5);
        x.consent(0, 6);
        x.consent(1, 6);
        due("strong", x, 0, 1, 0, 0, 0, 0, 0);
        x.withdraw(1, 5);
        due("then the RESERVE", x, 0, 1, 0, 0, 0, 3, 0);
        x.withdraw(0, 4);
        due("then without OBJECT", x, 0, 1, 0, 0, 0, 2, 7);
        x.withdraw(1, 3);
        due("then the other RESERVE", x, 0, 1, 0, 0, 0, 3, 0);
        x.withdraw(0, 2);
        due("then the CHANGE", x, 0, 1, 0, 0, 0, 4, 5);
        x.withdraw(0, 7);
        due("then the AGREEMENT", x, 0, 1, 0, 0, 0, 1, 1);
    }

    private static void changed() {
        TreatyHouse x = joined(3, 2, 1, 2);
        x.clock(10);
        x.change(2, 0, 1, 70);
        x.change(2, 0, 1, 71);
        x.change(2, 0, 0, 72);
        x.consent(0, 3);
        x.consent(0, 4);
        x.consent(0, 5);
        x.clock(11);
        x.consent(1, 3);
        due("one CONSENT alone has its EFFECT", x, 0, 1, 1, 12, 11, 1, 2);
        due("both", x, 0, 1, 1, 13, 11, 4, 70);
        due("one of both has none", x, 0, 2, 1, 13, 11, 1, 2);
        due("the other ARTICLE", x, 0, 1, 0, 13, 11, 1, 1);
        x.consent(1, 4);
        due("the greatest number", x, 0, 1, 1, 13, 11, 4, 71);
        dueWhy("the greatest number", x, 0, 1, 1, 13, 11, 0, 1, 2, 4, 7, 10);
        x.clock(20);
        x.withdraw(1, 10);
        due("one CONSENT withdrawn, without EFFECT", x, 0, 1, 1, 21, 20, 4, 71);
        due("one CONSENT withdrawn", x, 0, 1, 1, 22, 20, 4, 70);
        x.withdraw(2, 2);
        due("its proposer is away", x, 0, 1, 1, 22, 20, 4, 70);
        dueWhy("the CHANGE is OF the proposer's", x, 0, 1, 1, 22, 20, 0, 1, 2, 3, 6, 9);
    }

    private static void whyChanged() {
        TreatyHouse x = Check.houseWith(3);
        x.agreement(1, 1, 1, 0);
        x.join(0, 0);
        x.join(1, 0);
        x.clock(3);
        x.change(0, 0, 0, 80);
        x.consent(0, 2);
        x.consent(1, 2);
        x.clock(5);
        x.follow(2, 1, 0, true);
        x.consent(2, 2);
        check.dueRow("24: two CONSENTS", Check.has(x, 2, 0, 6, 5), 4, 6);
        due("two CONSENTS", x, 0, 2, 0, 6, 5, 4, 80);
        dueWhy("the least of them", x, 0, 2, 0, 6, 5, 0, 1, 2, 3, 4, 5);
        dueWhy("the DAY ahead, of those before", x, 0, 1, 0, 5, 5, 0, 1, 2, 3, 4);
        dueWhy("ahead of the CONSENTS, none of them", x, 0, 1, 0, 3, 5, 0, 1);
    }

    private static void changedAsKnown() {
        TreatyHouse x = joined(2, 1, 1, 0);
        x.clock(1);
        x.change(0, 0, 0, 80);
        x.clock(2);
        x.consent(0, 2);
        x.consent(1, 2);
        x.clock(3);
        x.change(1, 0, 0, 81);
        x.consent(0, 5);
        x.consent(1, 5);
        due("as known on 1", x, 0, 1, 0, 9, 1, 1, 1);
        due("as known on 2", x, 0, 1, 0, 9, 2, 4, 80);
        due("as known on 3", x, 0, 1, 0, 9, 3, 4, 81);
        due("on 2, as known on 3", x, 0, 1, 0, 2, 3, 4, 80);
        due("on 1, as known on 3", x, 0, 1, 0, 1, 3, 1, 1);
    }

    private static void followWithPapers() {
        TreatyHouse x = joined(2, 1, 1, 0);
        x.party();
        x.reserve(0, 0, 0, 30);
        x.clock(5);
        x.follow(2, 0, 0, true);
        check.due("21: followed", x.member(0, 0, 5, 5), NONE);
        check.due("21: the DAY ahead", x.member(0, 0, 4, 5), 0);
        check.due("21: the one behind", x.member(2, 0, 5, 5), 3);
        due("with its RESERVE", x, 2, 1, 0, 5, 5, 2, 30);
        due("the one followed", x, 0, 1, 0, 5, 5, 0, 0);
        due("not known", x, 0, 1, 0, 5, 4, 2, 30);
        dueWhy("with its RESERVE", x, 2, 1, 0, 5, 5, 0, 1, 2, 3);
        x.clock(6);
        x.withdraw(2, 2);
        due("it may withdraw it", x, 2, 1, 0, 6, 6, 1, 1);
        x.clock(7);
        x.withdraw(2, 3);
        due("and its MEMBERSHIP", x, 2, 1, 0, 7, 7, 0, 0);
        check.due("21: nor is the first A PARTY again", x.member(0, 0, 7, 7), NONE);
    }

    private static void followWithoutPapers() {
        TreatyHouse x = joined(2, 1, 1, 0);
        x.party();
        x.reserve(0, 0, 0, 30);
        x.clock(5);
        x.follow(2, 0, 0, false);
        due("without its RESERVE", x, 2, 1, 0, 5, 5, 1, 1);
        check.due("24: it HAS none", x.has(2, 0, 5, 5, 0), NONE);
        dueWhy("the one that it names all the same", x, 2, 1, 0, 5, 5, 0, 1, 3);
    }

    private static void followStoodAhead() {
        TreatyHouse x = joined(2, 3, 1, 4);
        x.party();
        x.clock(10);
        x.reserve(0, 0, 0, 30);
        x.reserve(0, 0, 1, 31);
        x.change(0, 0, 2, 32);
        x.consent(0, 4);
        x.clock(12);
        x.reserve(0, 0, 2, 33);
        x.withdraw(0, 3);
        x.change(0, 0, 2, 34);
        x.consent(0, 8);
        x.follow(2, 0, 0, true);
        check.dueRow("24: on the DAY ahead", Check.has(x, 0, 0, 15, 12), 2, 3, 4, 5, 8);
        check.due("24: the one followed HAS nothing", x.has(0, 0, 16, 12, 0), NONE);
        check.dueRow("24: what STANDS of that", Check.has(x, 2, 0, 16, 12), 2, 4, 5, 8);
        due("the one that STOOD", x, 2, 1, 0, 16, 12, 2, 30);
        due("the withdrawn one", x, 2, 1, 1, 16, 12, 1, 2);
        due("the one with the FOLLOW's EFFECT", x, 2, 1, 2, 16, 12, 1, 3);
    }

    private static void followChain() {
        TreatyHouse x = joined(1, 2, 1, 0);
        x.party();
        x.party();
        x.party();
        x.join(3, 0);
        x.reserve(0, 0, 0, 30);
        x.clock(1);
        x.follow(1, 0, 0, true);
        x.reserve(1, 0, 1, 31);
        x.clock(2);
        x.follow(2, 1, 0, true);
        check.dueRow("24: through two", Check.has(x, 2, 0, 2, 2), 2, 4);
        due("through two", x, 2, 3, 0, 2, 2, 2, 30);
        dueWhy("through two", x, 2, 3, 0, 2, 2, 0, 1, 2, 3, 5);
        x.clock(3);
        x.follow(0, 2, 0, false);
        check.due("24: none without PAPERS", x.has(0, 0, 3, 3, 0), NONE);
        x.reserve(0, 0, 1, 33);
        x.clock(4);
        x.follow(1, 0, 0, true);
        check.dueRow("24: those behind the gap alone", Check.has(x, 1, 0, 4, 4), 7);
        dueWhy("all that are named", x, 1, 3, 0, 4, 4, 0, 1, 3, 5, 6, 8);
        x.clock(5);
        x.follow(2, 1, 0, true);
        x.join(1, 0);
        check.due("21: in again beside it", x.member(1, 0, 5, 5), 10);
        due("r through the chain", x, 2, 1, 1, 5, 5, 2, 33);
        dueWhy("r through the chain", x, 2, 1, 1, 5, 5, 0, 3, 5, 6, 7, 8, 9, 10);
    }

    private static void whySources() {
        TreatyHouse x = Check.houseWith(5);
        x.agreement(1, 2, 0, 9);
        x.join(0, 0);
        x.join(1, 0);
        x.clock(1);
        x.follow(2, 0, 0, false);
        x.change(2, 0, 0, 40);
        x.clock(2);
        x.join(3, 0);
        x.withdraw(2, 2);
        x.join(4, 0);
        x.consent(3, 3);
        x.consent(4, 3);
        due("a CHANGE of one that is away", x, 3, 4, 0, 2, 2, 4, 40);
        dueWhy("its MEMBERSHIP, and the one that this names", x, 3, 4, 0, 2, 2, 0, 1, 2, 3, 4, 6, 7, 8);
        x.clock(3);
        x.follow(0, 1, 0, false);
        dueWhy("a NEEDED one that is a FOLLOW", x, 3, 4, 0, 3, 3, 0, 1, 2, 3, 4, 6, 7, 8, 9);
    }

    private static void has() {
        TreatyHouse x = Check.houseWith(2);
        x.agreement(2, 1, 3, 9);
        x.agreement(2, 1, 0, 9);
        x.sign(0, 0);
        x.ratify(0, 0);
        x.join(1, 0);
        x.join(0, 1);
        x.clock(4);
        x.reserve(0, 1, 0, 3);
        x.reserve(0, 0, 0, 4);
        x.change(0, 0, 0, 5);
        x.consent(0, 6);
        x.reserve(1, 0, 0, 6);
        x.object(0, 8, true);
        x.note(1);
        check.dueRow("24: OBJECT and CHANGE at once", Check.has(x, 0, 0, 4, 4), 6, 9);
        check.dueRow("24: then RESERVE and CONSENT", Check.has(x, 0, 0, 7, 4), 5, 6, 7, 9);
        check.dueRow("24: of the other PARTY", Check.has(x, 1, 0, 7, 4), 8);
        check.dueRow("24: of the other AGREEMENT", Check.has(x, 0, 1, 7, 4), 4);
        check.dueRow("24: not known", Check.has(x, 0, 0, 7, 3));
        x.clock(5);
        x.withdraw(0, 9);
        check.dueRow("24: withdrawn", Check.has(x, 0, 0, 8, 5), 5, 6, 7);
        check.dueRow("24: withdrawn, not known", Check.has(x, 0, 0, 8, 4), 5, 6, 7, 9);
        check.dueRow("24: withdrawn, without EFFECT", Check.has(x, 0, 0, 7, 5), 5, 6, 7, 9);
        x.withdraw(0, 1);
        check.dueRow("24: on the last DAY", Check.has(x, 0, 0, 7, 5), 5, 6, 7, 9);
        check.due("24: no PARTY any more", x.has(0, 0, 8, 5, 0), NONE);
    }

    private static void first() {
        TreatyHouse x = Check.houseWith(3);
        x.agreement(2, 2, 3, 50);
        check.due("20: no PAPER", x.first(0, 1, 0, 0), 0);
        x.clock(5);
        x.join(0, 0);
        x.join(1, 0);
        check.due("20: not bound yet", x.first(0, 1, 0, 0), 0);
        x.clock(7);
        check.due("20: the DAY ahead", x.first(0, 1, 0, 0), 0);
        x.clock(8);
        check.due("20: the first DAY", x.first(0, 1, 0, 0), 8);
        x.clock(20);
        check.due("20: later", x.first(0, 1, 0, 0), 8);
        x.reserve(1, 0, 0, 6);
        check.due("20: what has no EFFECT yet", x.first(0, 1, 0, 0), 8);
        x.clock(30);
        check.due("20: the RESERVE", x.first(0, 1, 0, 0), 23);
        check.due("20: of the other ARTICLE", x.first(0, 1, 0, 1), 8);
        x.withdraw(1, 2);
        x.clock(40);
        check.due("20: back to the ANSWER before", x.first(0, 1, 0, 0), 33);
        x.join(2, 0);
        x.clock(50);
        check.due("20: nothing of theirs", x.first(0, 1, 0, 0), 33);
        check.due("20: of another two", x.first(2, 0, 0, 0), 43);
        x.withdraw(0, 0);
        x.clock(53);
        check.due("20: not bound any more", x.first(1, 0, 0, 1), 53);
        check.due("20: two never bound", x.first(0, 2, 0, 1), 53);
    }

    private static void firstByWordsAlone() {
        TreatyHouse x = joined(2, 1, 1, 0);
        x.clock(3);
        x.reserve(0, 0, 0, 8);
        x.clock(5);
        x.reserve(1, 0, 0, 9);
        check.due("20: RESERVED with other WORDS", x.first(0, 1, 0, 0), 5);
        x.clock(7);
        x.reserve(0, 0, 0, 9);
        check.due("20: another PAPER, the same WORDS", x.first(0, 1, 0, 0), 5);
        x.clock(8);
        x.reserve(0, 0, 0, 0);
        check.due("20: LEFT OUT", x.first(0, 1, 0, 0), 8);
        x.clock(9);
        x.object(1, 5, false);
        check.due("20: NOT BOUND, WORDS the same", x.first(0, 1, 0, 0), 9);
        x.withdraw(1, 6);
        check.due("20: on one DAY", x.first(0, 1, 0, 0), 8);
    }

    private static void since() {
        TreatyHouse x = Check.houseWith(3);
        x.agreement(1, 2, 3, 0);
        x.clock(2);
        x.join(0, 0);
        x.join(1, 0);
        check.due("23: too few", x.since(0), NONE);
        x.clock(4);
        check.due("23: the DAY ahead", x.since(0), NONE);
        x.clock(5);
        check.due("23: the first DAY", x.since(0), 5);
        x.clock(10);
        x.join(2, 0);
        x.withdraw(0, 0);
        x.clock(20);
        check.due("23: one in for another", x.since(0), 5);
        x.withdraw(1, 1);
        x.clock(22);
        check.due("23: without EFFECT", x.since(0), 5);
        x.clock(23);
        check.due("23: too few again", x.since(0), NONE);
        x.join(0, 0);
        x.clock(30);
        check.due("23: enough again", x.since(0), 26);
        x.agreement(1, 1, 0, 0);
        check.due("23: the other AGREEMENT", x.since(1), NONE);
        TreatyHouse y = joined(2, 1, 2, 0);
        check.due("23: from DAY 0 on", y.since(0), 0);
        y.clock(73000);
        check.due("23: from DAY 0 on, on the last", y.since(0), 0);
        check.due("20: from DAY 0 on, on the last", y.first(0, 1, 0, 0), 0);
    }

    private static void lastDays() {
        TreatyHouse x = joined(2, 1, 1, 1000);
        x.clock(72000);
        x.reserve(0, 0, 0, 5);
        due("the last DAY", x, 0, 1, 0, 73000, 72000, 2, 5);
        due("the DAY ahead", x, 0, 1, 0, 72999, 72000, 1, 1);
        x.clock(73000);
        check.due("20: on the last DAY", x.first(0, 1, 0, 0), 73000);
        x.withdraw(0, 0);
        due("an EFFECT beyond the last DAY", x, 0, 1, 0, 73000, 73000, 2, 5);
    }
}
