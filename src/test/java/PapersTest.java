/** Promises 6 to 16, 25 and 26: PAPERS as they are lodged, refused, undone and shown. */
public final class PapersTest {
    private static final int NONE = TreatyHouse.NONE;
    private static final Check check = new Check();

    public static void main(String[] args) {
        sign();
        ratify();
        join();
        reserve();
        object();
        objectToWhatItHolds();
        objectAgain();
        withdraw();
        withdrawWhatItHolds();
        change();
        consent();
        follow();
        note();
        undo();
        undoFreesWhatItNamed();
        noRoom();
        paper();
        effects();
        check.end();
    }

    private static void duePaper(String call, TreatyHouse x, int number, int... due) {
        for (int what = 0; what < due.length; what++) {
            check.due(call + ": paper(" + number + ", " + what + ")", x.paper(number, what), due[what]);
        }
    }

    private static TreatyHouse withAgreement(int parties, int needed, int wait, int span) {
        TreatyHouse x = Check.houseWith(parties);
        x.agreement(3, needed, wait, span);
        return x;
    }

    private static void sign() {
        TreatyHouse x = withAgreement(2, 1, 7, 0);
        x.agreement(1, 1, 0, 0);
        check.due("6: no PARTY 2", x.sign(2, 0), -2);
        check.due("6: no PARTY -1", x.sign(-1, 0), -2);
        check.due("6: no AGREEMENT 2", x.sign(0, 2), -2);
        check.due("6: no AGREEMENT -1", x.sign(0, -1), -2);
        x.clock(3);
        check.due("6: sign(0, 0)", x.sign(0, 0), 0);
        check.due("6: again", x.sign(0, 0), -4);
        check.due("6: of the other PARTY", x.sign(1, 0), 1);
        check.due("6: about the other AGREEMENT", x.sign(0, 1), 2);
        x.clock(500);
        check.due("6: again later", x.sign(0, 0), -4);
        duePaper("6: a SIGN", x, 0, 0, 0, 0, 3, 3, NONE, NONE, NONE, NONE, 0);
        check.due("6: refusals lodge nothing", x.count(2), 3);
        check.due("6: to sign is not to belong", x.reserve(0, 0, 0, 0), -6);
    }

    private static void ratify() {
        TreatyHouse x = withAgreement(2, 1, 7, 0);
        check.due("7: no PARTY 2", x.ratify(2, 0), -2);
        check.due("7: no AGREEMENT 1", x.ratify(0, 1), -2);
        check.due("7: no SIGN", x.ratify(0, 0), -5);
        x.agreement(1, 1, 0, 0);
        x.sign(0, 1);
        check.due("7: a SIGN about another", x.ratify(0, 0), -5);
        x.sign(1, 0);
        check.due("7: a SIGN of another", x.ratify(0, 0), -5);
        x.join(0, 0);
        check.due("7: no SIGN, but it BELONGS", x.ratify(0, 0), -5);
        x.undo();
        x.sign(0, 0);
        x.clock(2);
        check.due("7: ratify(0, 0)", x.ratify(0, 0), 3);
        check.due("7: it BELONGS", x.ratify(0, 0), -4);
        duePaper("7: a RATIFY", x, 3, 1, 0, 0, 2, 9, NONE, NONE, NONE, NONE, 0);
        check.due("7: the withdrawal", x.withdraw(0, 3), 4);
        check.due("7: a second time by the same SIGN", x.ratify(0, 0), 5);
    }

    private static void join() {
        TreatyHouse x = withAgreement(2, 1, 7, 0);
        x.agreement(1, 1, 0, 0);
        check.due("8: no PARTY 2", x.join(2, 0), -2);
        check.due("8: no PARTY -1", x.join(-1, 0), -2);
        check.due("8: no AGREEMENT 2", x.join(0, 2), -2);
        x.clock(4);
        check.due("8: join(0, 0)", x.join(0, 0), 0);
        check.due("8: again", x.join(0, 0), -4);
        check.due("8: the other AGREEMENT", x.join(0, 1), 1);
        check.due("8: the other PARTY", x.join(1, 0), 2);
        duePaper("8: a JOIN", x, 0, 2, 0, 0, 4, 11, NONE, NONE, NONE, NONE, 0);
        duePaper("8: a JOIN without WAIT", x, 1, 2, 0, 1, 4, 4);
        x.withdraw(0, 0);
        check.due("8: after a WITHDRAW without its EFFECT", x.join(0, 0), 4);
    }

    private static void reserve() {
        TreatyHouse x = withAgreement(2, 1, 7, 0);
        check.due("9: does not BELONG", x.reserve(0, 0, 0, 1), -6);
        x.join(0, 0);
        int[][] wrong = {{-1, 0, 0, 1}, {2, 0, 0, 1}, {0, -1, 0, 1}, {0, 1, 0, 1}, {0, 0, -1, 1}, {0, 0, 3, 1},
            {0, 0, 0, -1}, {0, 0, 0, 1000001}, {1, 0, 3, 1}};
        for (int[] w : wrong) {
            check.due("9: a wrong number", x.reserve(w[0], w[1], w[2], w[3]), -2);
        }
        check.due("9: words 0", x.reserve(0, 0, 0, 0), 1);
        check.due("9: words 1000000", x.reserve(0, 0, 2, 1000000), 2);
        check.due("9: again", x.reserve(0, 0, 2, 5), 3);
        check.due("9: the other does not BELONG", x.reserve(1, 0, 2, 5), -6);
        duePaper("9: a RESERVE", x, 1, 3, 0, 0, 0, 7, NONE, 0, 0, 0, 0);
        duePaper("9: a RESERVE", x, 2, 3, 0, 0, 0, 7, NONE, 0, 2, 1000000, 0);
        x.withdraw(0, 0);
        check.due("9: it BELONGS no longer", x.reserve(0, 0, 0, 1), -6);
    }

    private static void object() {
        TreatyHouse x = withAgreement(4, 1, 7, 5);
        x.join(0, 0);
        x.join(1, 0);
        x.clock(1);
        check.due("10: the RESERVE", x.reserve(0, 0, 1, 9), 2);
        check.due("10: no PARTY 4", x.object(4, 2, true), -2);
        check.due("10: no PARTY -1", x.object(-1, 2, true), -2);
        check.due("10: no PAPER 3", x.object(1, 3, true), -2);
        check.due("10: no PAPER -1", x.object(1, -1, true), -2);
        check.due("10: no RESERVE", x.object(1, 0, true), -2);
        check.due("10: does not BELONG", x.object(2, 2, true), -6);
        check.due("10: its own", x.object(0, 2, true), -7);
        x.clock(6);
        x.join(2, 0);
        check.due("10: SPAN DAYS behind, strong", x.object(1, 2, false), 4);
        check.due("10: SPAN DAYS behind, mild", x.object(2, 2, true), 5);
        duePaper("10: a strong OBJECT", x, 4, 4, 1, 0, 6, 6, 2, 1, NONE, NONE, 0);
        duePaper("10: a mild OBJECT", x, 5, 4, 2, 0, 6, 6, 2, 3, NONE, NONE, 1);
        check.due("10: again", x.object(1, 2, true), -4);
        x.clock(7);
        check.due("10: again and too late", x.object(1, 2, true), -3);
        check.due("10: its own and too late", x.object(0, 2, true), -7);
        check.due("10: does not BELONG and too late", x.object(3, 2, true), -6);
        x.join(3, 0);
        check.due("10: too late", x.object(3, 2, true), -3);
        x.withdraw(0, 2);
        check.due("10: the withdrawn one is its own still", x.object(0, 2, true), -7);
    }

    private static void objectToWhatItHolds() {
        TreatyHouse x = withAgreement(4, 1, 2, 100);
        x.join(0, 0);
        x.reserve(0, 0, 0, 9);
        x.clock(1);
        check.due("10: a RESERVE without its EFFECT ahead of the FOLLOW's", x.reserve(0, 0, 1, 9), 2);
        check.due("10: the FOLLOW", x.follow(1, 0, 0, true), 3);
        check.due("10: HELD by the FOLLOW", x.object(1, 1, true), -7);
        check.due("10: did not STAND ahead of it", x.object(1, 2, true), 4);
        x.undo();
        x.undo();
        check.due("10: the FOLLOW without PAPERS", x.follow(1, 0, 0, false), 3);
        check.due("10: not HELD by it", x.object(1, 1, true), 4);
        x.undo();
        x.undo();
        x.clock(2);
        x.follow(1, 0, 0, true);
        check.due("10: now both STOOD ahead", x.object(1, 2, true), -7);
        x.withdraw(1, 1);
        check.due("10: whether it STANDS or not", x.object(1, 1, true), -7);
        x.clock(3);
        x.follow(2, 1, 0, true);
        check.due("10: the withdrawn one STOOD not ahead of the next", x.object(2, 1, true), 6);
        check.due("10: the other one did", x.object(2, 2, true), -7);
    }

    private static void objectAgain() {
        TreatyHouse x = withAgreement(2, 1, 3, 100);
        x.join(0, 0);
        x.join(1, 0);
        x.reserve(0, 0, 0, 9);
        x.object(1, 2, true);
        x.withdraw(1, 3);
        check.due("10: the first was withdrawn, if only of late", x.object(1, 2, false), 5);
        x.withdraw(1, 1);
        check.due("10: no MEMBERSHIP", x.object(1, 2, false), -6);
        x.join(1, 0);
        check.due("10: with another MEMBERSHIP", x.object(1, 2, false), 8);
        check.due("10: and again", x.object(1, 2, false), -4);
        x.withdraw(0, 0);
        x.join(0, 0);
        check.due("10: its own of a MEMBERSHIP before", x.object(0, 2, false), 11);
    }

    private static void withdraw() {
        TreatyHouse x = withAgreement(3, 1, 7, 100);
        x.sign(0, 0);
        x.ratify(0, 0);
        x.join(1, 0);
        x.reserve(0, 0, 0, 9);
        x.object(1, 3, true);
        x.change(0, 0, 0, 5);
        x.consent(1, 5);
        x.note(4);
        x.clock(2);
        int[] notOfTheKind = {-1, 0, 5, 7, 8, 400, Integer.MIN_VALUE, Integer.MAX_VALUE};
        for (int number : notOfTheKind) {
            check.due("11: PAPER " + number, x.withdraw(0, number), -2);
        }
        check.due("11: no PARTY 3", x.withdraw(3, 3), -2);
        check.due("11: no PARTY -1", x.withdraw(-1, 3), -2);
        check.due("11: does not BELONG", x.withdraw(2, 3), -6);
        check.due("11: a RESERVE of another", x.withdraw(1, 3), -7);
        check.due("11: a MEMBERSHIP of another", x.withdraw(1, 1), -7);
        check.due("11: an OBJECT of another", x.withdraw(0, 4), -7);
        check.due("11: a CONSENT of another", x.withdraw(0, 6), -7);
        check.due("11: the RESERVE", x.withdraw(0, 3), 8);
        duePaper("11: a WITHDRAW", x, 8, 5, 0, 0, 2, 9, 3, NONE, NONE, NONE, 0);
        check.due("11: again", x.withdraw(0, 3), -4);
        check.due("11: again, of another", x.withdraw(1, 3), -7);
        check.due("11: a WITHDRAW", x.withdraw(0, 8), -2);
        check.due("11: the OBJECT", x.withdraw(1, 4), 9);
        check.due("11: the CONSENT", x.withdraw(1, 6), 10);
        check.due("11: the RATIFY", x.withdraw(0, 1), 11);
        check.due("11: it BELONGS no longer", x.withdraw(0, 1), -6);
        check.due("11: the JOIN", x.withdraw(1, 2), 12);
        x.join(0, 0);
        check.due("11: a MEMBERSHIP before", x.withdraw(0, 1), -7);
        check.due("11: of a MEMBERSHIP before", x.withdraw(0, 3), -7);
        check.due("11: a FOLLOW", x.follow(1, 0, 0, true), 14);
        check.due("11: the FOLLOW", x.withdraw(1, 14), 15);
    }

    private static void withdrawWhatItHolds() {
        TreatyHouse x = withAgreement(3, 1, 0, 100);
        x.agreement(1, 1, 0, 0);
        x.join(0, 0);
        x.join(2, 0);
        x.reserve(0, 0, 0, 9);
        x.clock(1);
        x.reserve(0, 0, 1, 9);
        x.follow(1, 0, 0, true);
        x.join(0, 0);
        check.due("11: it STOOD not ahead of the FOLLOW", x.withdraw(1, 3), -7);
        check.due("11: the one that it follows", x.withdraw(1, 0), -7);
        check.due("11: no longer HELD by its first PARTY", x.withdraw(0, 2), -7);
        check.due("11: HELD behind the FOLLOW", x.withdraw(1, 2), 6);
        duePaper("11: of the PARTY that withdraws", x, 6, 5, 1, 0, 1, 1, 2, NONE, NONE, NONE, 0);
        check.due("11: again", x.withdraw(1, 2), -4);
        x.join(2, 1);
        check.due("11: BELONGS to another AGREEMENT alone", x.withdraw(2, 2), -7);
        x.withdraw(2, 1);
        check.due("11: BELONGS to the other AGREEMENT", x.withdraw(2, 2), -6);
    }

    private static void change() {
        TreatyHouse x = withAgreement(2, 1, 7, 0);
        check.due("12: does not BELONG", x.change(0, 0, 0, 1), -6);
        x.join(0, 0);
        x.clock(2);
        int[][] wrong = {{-1, 0, 0, 1}, {2, 0, 0, 1}, {0, -1, 0, 1}, {0, 1, 0, 1}, {0, 0, -1, 1}, {0, 0, 3, 1},
            {0, 0, 0, -1}, {0, 0, 0, 0}, {0, 0, 0, 1000001}, {1, 0, 0, 0}};
        for (int[] w : wrong) {
            check.due("12: a wrong number", x.change(w[0], w[1], w[2], w[3]), -2);
        }
        check.due("12: words 1", x.change(0, 0, 2, 1), 1);
        check.due("12: words 1000000", x.change(0, 0, 2, 1000000), 2);
        duePaper("12: a CHANGE", x, 1, 6, 0, 0, 2, 2, NONE, 0, 2, 1, 0);
        duePaper("12: a CHANGE", x, 2, 6, 0, 0, 2, 2, NONE, 0, 2, 1000000, 0);
    }

    private static void consent() {
        TreatyHouse x = withAgreement(3, 1, 7, 0);
        x.join(0, 0);
        x.join(1, 0);
        x.change(0, 0, 1, 8);
        x.change(0, 0, 1, 9);
        x.clock(2);
        check.due("13: no PARTY 3", x.consent(3, 2), -2);
        check.due("13: no PARTY -1", x.consent(-1, 2), -2);
        check.due("13: no PAPER 4", x.consent(0, 4), -2);
        check.due("13: no PAPER -1", x.consent(0, -1), -2);
        check.due("13: no CHANGE", x.consent(0, 0), -2);
        check.due("13: does not BELONG", x.consent(2, 2), -6);
        check.due("13: of the proposer", x.consent(0, 2), 4);
        check.due("13: of another", x.consent(1, 2), 5);
        check.due("13: to the other CHANGE", x.consent(1, 3), 6);
        check.due("13: again", x.consent(1, 2), -4);
        duePaper("13: a CONSENT", x, 5, 7, 1, 0, 2, 9, 2, 1, NONE, NONE, 0);
        x.withdraw(1, 5);
        check.due("13: the first was withdrawn", x.consent(1, 2), 8);
        check.due("13: and again", x.consent(1, 2), -4);
        x.withdraw(1, 1);
        x.join(1, 0);
        check.due("13: with another MEMBERSHIP", x.consent(1, 2), 11);
        x.withdraw(0, 0);
        check.due("13: the proposer is away", x.consent(1, 2), -4);
        check.due("13: the FOLLOW behind it", x.follow(2, 1, 0, true), 13);
        check.due("13: HELD, but not OF it", x.consent(2, 2), 14);
    }

    private static void follow() {
        TreatyHouse x = withAgreement(4, 1, 7, 0);
        x.agreement(1, 1, 0, 0);
        check.due("14: no PARTY p", x.follow(4, 0, 0, true), -2);
        check.due("14: no PARTY q", x.follow(0, 4, 0, true), -2);
        check.due("14: PARTY q -1", x.follow(0, -1, 0, true), -2);
        check.due("14: no AGREEMENT", x.follow(0, 1, 2, true), -2);
        check.due("14: q does not BELONG", x.follow(0, 1, 0, true), -6);
        check.due("14: q is p", x.follow(0, 0, 0, true), -4);
        x.join(1, 0);
        x.clock(3);
        check.due("14: q BELONGS to the other AGREEMENT", x.follow(0, 1, 1, true), -6);
        check.due("14: p BELONGS, q does not", x.follow(1, 0, 0, true), -4);
        check.due("14: with PAPERS", x.follow(0, 1, 0, true), 1);
        duePaper("14: a FOLLOW", x, 1, 8, 0, 0, 3, 10, 0, NONE, NONE, NONE, 1);
        check.due("14: q BELONGS no longer", x.follow(2, 1, 0, true), -6);
        check.due("14: nor can it withdraw", x.withdraw(1, 0), -6);
        check.due("14: without PAPERS, behind a FOLLOW", x.follow(2, 0, 0, false), 2);
        duePaper("14: a FOLLOW", x, 2, 8, 2, 0, 3, 10, 1, NONE, NONE, NONE, 0);
        check.due("14: q may come back behind it", x.follow(1, 2, 0, false), 3);
        check.due("14: p BELONGS", x.follow(1, 2, 0, false), -4);
        check.due("14: a join beside", x.join(2, 0), 4);
        check.due("14: both BELONG", x.follow(1, 2, 0, true), -4);
    }

    private static void note() {
        TreatyHouse x = new TreatyHouse();
        x.clock(6);
        check.due("15: note(MIN)", x.note(Long.MIN_VALUE), 0);
        check.due("15: note(MAX)", x.note(Long.MAX_VALUE), 1);
        check.due("15: note(0)", x.note(0), 2);
        duePaper("15: a NOTE", x, 1, 9, NONE, NONE, 6, 6, NONE, NONE, NONE, NONE, 0);
        check.due("26: noted(0)", x.noted(0), Long.MIN_VALUE);
        check.due("26: noted(1)", x.noted(1), Long.MAX_VALUE);
        check.due("26: noted(2)", x.noted(2), 0);
        check.due("26: noted(3)", x.noted(3), 0);
        check.due("26: noted(-1)", x.noted(-1), 0);
        check.due("26: noted(400)", x.noted(400), 0);
        x.party();
        x.agreement(1, 1, 0, 0);
        x.join(0, 0);
        check.due("26: of a JOIN", x.noted(3), 0);
        x.undo();
        x.undo();
        x.undo();
        check.due("26: after undo", x.noted(1), 0);
        x.sign(0, 0);
        check.due("26: of a SIGN in its place", x.noted(1), 0);
    }

    private static void undo() {
        TreatyHouse x = withAgreement(2, 1, 0, 0);
        check.due("16: no PAPER", x.undo(), NONE);
        x.sign(0, 0);
        x.sign(1, 0);
        x.join(0, 0);
        check.due("16: the latest", x.undo(), 2);
        check.due("16: and the one ahead", x.undo(), 1);
        check.due("16: it is gone", x.paper(1, 0), NONE);
        check.due("16: it may be lodged again", x.sign(1, 0), 1);
        x.clock(1);
        check.due("16: the next DAY", x.undo(), NONE);
        check.due("16: nothing is changed", x.count(2), 2);
        check.due("16: one more", x.join(1, 0), 2);
        check.due("16: that alone", x.undo(), 2);
        check.due("16: not those of the DAY before", x.undo(), NONE);
        check.due("16: the number is given out again", x.note(3), 2);
        check.due("16: count(2)", x.count(2), 3);
    }

    private static void undoFreesWhatItNamed() {
        TreatyHouse x = withAgreement(3, 1, 0, 5);
        x.join(0, 0);
        x.join(1, 0);
        x.reserve(0, 0, 0, 4);
        x.object(1, 2, false);
        check.due("16: bound no more", x.between(0, 1, 0, 0, 0, 0), 0);
        x.undo();
        check.due("16: the OBJECT is gone", x.between(0, 1, 0, 0, 0, 0), 2);
        check.due("16: it may object again", x.object(1, 2, true), 3);
        x.withdraw(1, 3);
        check.due("16: withdrawn", x.between(0, 1, 0, 0, 0, 0), 2);
        x.undo();
        check.due("16: the WITHDRAW is gone", x.between(0, 1, 0, 0, 0, 0), 3);
        check.due("16: one to it is there again", x.object(1, 2, true), -4);
        x.follow(2, 0, 0, true);
        check.due("16: followed", x.member(0, 0, 0, 0), NONE);
        x.undo();
        check.due("16: it BELONGS again", x.join(0, 0), -4);
        check.due("16: and IS A PARTY", x.member(0, 0, 0, 0), 0);
        x.withdraw(0, 0);
        check.due("16: its MEMBERSHIP is withdrawn", x.reserve(0, 0, 0, 4), -6);
        x.undo();
        check.due("16: it has it again", x.reserve(0, 0, 0, 4), 4);
        x.undo();
        x.change(0, 0, 1, 70);
        x.consent(0, 4);
        x.consent(1, 4);
        check.due("16: changed", x.words(0, 1, 0, 1, 0, 0), 70);
        x.undo();
        check.due("16: the CONSENT is gone", x.words(0, 1, 0, 1, 0, 0), 2);
        check.due("16: it may consent again", x.consent(1, 4), 6);
    }

    private static void noRoom() {
        TreatyHouse x = withAgreement(3, 1, 0, 0);
        x.agreement(1, 1, 0, 0);
        x.sign(0, 0);
        x.join(0, 0);
        x.reserve(0, 0, 0, 4);
        x.change(0, 0, 0, 4);
        x.join(1, 0);
        x.clock(1);
        for (int i = x.count(2); i < 400; i++) {
            check.due("15: note", x.note(i), i);
        }
        check.due("6: -8", x.sign(1, 0), -8);
        check.due("6: -8 ahead of -4", x.sign(0, 0), -8);
        check.due("6: -2 ahead of -8", x.sign(3, 0), -2);
        check.due("7: -8 ahead of -5", x.ratify(1, 0), -8);
        check.due("7: -8 ahead of -4", x.ratify(0, 0), -8);
        check.due("7: -2 ahead of -8", x.ratify(0, 2), -2);
        check.due("8: -8", x.join(2, 0), -8);
        check.due("8: -8 ahead of -4", x.join(0, 0), -8);
        check.due("8: -2 ahead of -8", x.join(0, -1), -2);
        check.due("9: -8", x.reserve(0, 0, 0, 0), -8);
        check.due("9: -8 ahead of -6", x.reserve(2, 0, 0, 0), -8);
        check.due("9: -2 ahead of -8", x.reserve(0, 0, 3, 0), -2);
        check.due("10: -8 ahead of -3", x.object(1, 2, true), -8);
        check.due("10: -8 ahead of -6", x.object(2, 2, true), -8);
        check.due("10: -8 ahead of -7", x.object(0, 2, true), -8);
        check.due("10: -2 ahead of -8", x.object(1, 1, true), -2);
        check.due("11: -8", x.withdraw(0, 1), -8);
        check.due("11: -8 ahead of -6", x.withdraw(2, 1), -8);
        check.due("11: -8 ahead of -7", x.withdraw(1, 1), -8);
        check.due("11: -2 ahead of -8", x.withdraw(0, 0), -2);
        check.due("12: -8", x.change(0, 0, 0, 9), -8);
        check.due("12: -8 ahead of -6", x.change(2, 0, 0, 9), -8);
        check.due("12: -2 ahead of -8", x.change(0, 0, 0, 0), -2);
        check.due("13: -8", x.consent(0, 3), -8);
        check.due("13: -8 ahead of -6", x.consent(2, 3), -8);
        check.due("13: -2 ahead of -8", x.consent(0, 2), -2);
        check.due("14: -8", x.follow(2, 0, 0, true), -8);
        check.due("14: -8 ahead of -4", x.follow(0, 1, 0, true), -8);
        check.due("14: -8 ahead of -6", x.follow(0, 1, 1, true), -8);
        check.due("14: -2 ahead of -8", x.follow(3, 0, 0, true), -2);
        check.due("15: -8", x.note(1), -8);
        check.due("33: 400 PAPERS", x.count(2), 400);
        check.due("25: PAPER 399", x.paper(399, 0), 9);
        check.due("26: noted(399)", x.noted(399), 399);
        check.due("25: PAPER 400", x.paper(400, 0), NONE);
        check.due("16: undo of PAPER 399", x.undo(), 399);
        check.due("8: room again", x.join(2, 0), 399);
        check.due("22: the last PAPER counts", x.members(0, 1, 1), 3);
        check.due("19: in WHY too", x.why(0, 2, 0, 1, 1, 1, 1), 399);
        check.due("15: no room again", x.note(1), -8);
        x.undo();
        check.due("14: the last PAPER, a FOLLOW", x.follow(2, 1, 0, false), 399);
        check.due("19: and the one that it names", x.why(0, 2, 0, 1, 1, 1, 1), 4);
        check.due("19: and itself", x.why(0, 2, 0, 1, 1, 1, 2), 399);
        check.due("19: and no more", x.why(0, 2, 0, 1, 1, 1, 3), NONE);
    }

    private static void paper() {
        TreatyHouse x = withAgreement(2, 1, 1, 0);
        x.join(1, 0);
        check.due("25: paper(-1, 0)", x.paper(-1, 0), NONE);
        check.due("25: paper(1, 0)", x.paper(1, 0), NONE);
        check.due("25: paper(MIN, 0)", x.paper(Integer.MIN_VALUE, 0), NONE);
        check.due("25: paper(MAX, 0)", x.paper(Integer.MAX_VALUE, 0), NONE);
        int[] others = {-1, 10, 11, Integer.MIN_VALUE, Integer.MAX_VALUE};
        for (int what : others) {
            check.due("25: paper(0, " + what + ")", x.paper(0, what), NONE);
        }
        duePaper("25: a JOIN", x, 0, 2, 1, 0, 0, 1, NONE, NONE, NONE, NONE, 0);
    }

    private static void effects() {
        TreatyHouse x = withAgreement(2, 1, 1000, 0);
        x.clock(73000);
        check.due("25: on the last DAY", x.join(0, 0), 0);
        duePaper("25: an EFFECT beyond it", x, 0, 2, 0, 0, 73000, 74000);
        check.due("21: it never STANDS", x.member(0, 0, 73000, 73000), NONE);
        check.due("9: but it BELONGS", x.reserve(0, 0, 0, 1), 1);
    }
}
