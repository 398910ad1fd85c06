/**
 * Promises 4, 6 to 16 and 27 to 32: each refusal, and where two hold at once the one that is told first; after each
 * of them nothing has changed.
 */
public final class RefusalsTest {
    private static final int NONE = TreatyHouse.NONE;
    private static final Check check = new Check();

    public static void main(String[] args) {
        article();
        sign();
        ratify();
        join();
        reserve();
        objectInOrder();
        objectToWhatItHolds();
        objectOnceMore();
        objectInTime();
        withdrawInOrder();
        withdrawOfKinds();
        withdrawWhatItHolds();
        change();
        consent();
        follow();
        undo();
        noRoomToEnter();
        noRoomToAnswer();
        annex();
        annexNumbers();
        copy();
        check.end();
    }

    /** 4 PARTIES; AGREEMENT 0 with 3 ARTICLES, a WAIT of 2 and a SPAN of 5, AGREEMENT 1 without both. */
    private static Script script() {
        return new Script(check).parties(4).agreement(0, 3, 1, 2, 5).agreement(1, 1, 1, 0, 0);
    }

    private static void article() {
        Script script = script().clock(4);
        script.fork().notes(0, 0).due("4: a NOTE is about none", 1, x -> x.article(0, 0, 9));
        script.due("4: no PAPER", 1, x -> x.article(0, 0, 9));
        Script signed = script.fork().sign(0, 0, 0);
        signed.refused("4: a SIGN is LODGED", NONE, x -> x.article(0, 0, 9));
        signed.refused("4: a SIGN, and no such ARTICLE", NONE, x -> x.article(0, 3, 9));
        signed.due("4: none about the other", 1, x -> x.article(1, 0, 9));
        signed.fork().undo(0).due("4: the SIGN is gone", 1, x -> x.article(0, 0, 9));
        script.fork().join(0, 0, 0).refused("4: a JOIN is LODGED", NONE, x -> x.article(0, 0, 9));
        script.fork().join(0, 0, 0).withdraw(1, 0, 0).clock(100)
            .refused("4: a JOIN that was withdrawn is LODGED still", NONE, x -> x.article(0, 0, 9));
        script.fork().join(0, 0, 1).join(1, 1, 0).refused("4: the second PAPER", NONE, x -> x.article(0, 0, 9));
    }

    private static void sign() {
        Script script = script().sign(0, 0, 0);
        script.refused("6: p has a SIGN", -4, x -> x.sign(0, 0));
        script.due("6: of another PARTY", 1, x -> x.sign(1, 0));
        script.due("6: about another AGREEMENT", 1, x -> x.sign(0, 1));
        script.fork().clock(73000).refused("6: on the last DAY", -4, x -> x.sign(0, 0));
        script.fork().ratify(1, 0, 0).refused("6: and it BELONGS", -4, x -> x.sign(0, 0));
        script.fork().ratify(1, 0, 0).withdraw(2, 0, 1).clock(9)
            .refused("6: and it BELONGS no more", -4, x -> x.sign(0, 0));
        script.fork().undo(0).due("6: its SIGN is gone", 0, x -> x.sign(0, 0));
        script().join(0, 0, 0).due("6: it BELONGS without", 1, x -> x.sign(0, 0));
        script.refused("6: no such PARTY nor AGREEMENT", -2, x -> x.sign(4, 2));
    }

    private static void ratify() {
        Script script = script();
        script.refused("7: no SIGN", -5, x -> x.ratify(0, 0));
        script.refused("7: no such PARTY, and no SIGN", -2, x -> x.ratify(4, 0));
        script.refused("7: no such AGREEMENT, and no SIGN", -2, x -> x.ratify(0, 2));
        script.fork().sign(0, 1, 0).refused("7: of another", -5, x -> x.ratify(0, 0));
        script.fork().sign(0, 0, 1).refused("7: about another", -5, x -> x.ratify(0, 0));
        script.fork().sign(0, 0, 0).undo(0).refused("7: it is gone", -5, x -> x.ratify(0, 0));
        script.fork().join(0, 0, 0).refused("7: no SIGN, and it BELONGS", -5, x -> x.ratify(0, 0));
        Script signed = script().sign(0, 0, 0);
        signed.due("7: a SIGN of the same DAY", 1, x -> x.ratify(0, 0));
        signed.fork().ratify(1, 0, 0).refused("7: by a RATIFY", -4, x -> x.ratify(0, 0));
        signed.fork().join(1, 0, 0).refused("7: by a JOIN", -4, x -> x.ratify(0, 0));
        signed.fork().join(1, 1, 0).follow(2, 0, 1, 0, true).refused("7: by a FOLLOW", -4, x -> x.ratify(0, 0));
        Script away = signed.fork().ratify(1, 0, 0).withdraw(2, 0, 1);
        away.due("7: its WITHDRAW is LODGED, if without EFFECT", 3, x -> x.ratify(0, 0));
        away.undo(2).refused("7: its WITHDRAW is gone", -4, x -> x.ratify(0, 0));
        Script followed = signed.fork().ratify(1, 0, 0).follow(2, 1, 0, 0, false);
        followed.due("7: a FOLLOW is LODGED", 3, x -> x.ratify(0, 0));
        followed.undo(2).refused("7: the FOLLOW is gone", -4, x -> x.ratify(0, 0));
    }

    private static void join() {
        Script script = script();
        script.fork().join(0, 0, 0).refused("8: by a JOIN", -4, x -> x.join(0, 0));
        script.fork().join(0, 0, 0).due("8: to the other", 1, x -> x.join(0, 1));
        script.fork().sign(0, 0, 0).due("8: signed alone", 1, x -> x.join(0, 0));
        script.fork().sign(0, 0, 0).ratify(1, 0, 0).refused("8: by a RATIFY", -4, x -> x.join(0, 0));
        script.fork().join(0, 1, 0).follow(1, 0, 1, 0, true).refused("8: by a FOLLOW", -4, x -> x.join(0, 0));
        script.fork().join(0, 1, 0).follow(1, 0, 1, 0, true).due("8: the one behind it", 2, x -> x.join(1, 0));
        Script away = script.fork().join(0, 0, 0).withdraw(1, 0, 0);
        away.due("8: withdrawn on the same DAY", 2, x -> x.join(0, 0));
        away.undo(1).refused("8: its WITHDRAW is gone", -4, x -> x.join(0, 0));
        script.fork().join(0, 0, 0).clock(1).refused("8: ahead of its EFFECT", -4, x -> x.join(0, 0));
        script.fork().join(0, 0, 0).clock(2).refused("8: on its EFFECT", -4, x -> x.join(0, 0));
        script.fork().join(0, 0, 0).clock(3).refused("8: behind its EFFECT", -4, x -> x.join(0, 0));
    }

    private static void reserve() {
        Script script = script();
        script.refused("9: never", -6, x -> x.reserve(0, 0, 0, 5));
        script.refused("9: never, and no such ARTICLE", -2, x -> x.reserve(0, 0, 3, 5));
        script.refused("9: never, and words too many", -2, x -> x.reserve(0, 0, 0, 1000001));
        script.refused("9: never, and words too few", -2, x -> x.reserve(0, 0, 0, -1));
        script.fork().sign(0, 0, 0).refused("9: signed alone", -6, x -> x.reserve(0, 0, 0, 5));
        script.fork().join(0, 0, 1).refused("9: to the other", -6, x -> x.reserve(0, 0, 0, 5));
        script.fork().join(0, 0, 1).refused("9: no ARTICLE of the other", -2, x -> x.reserve(0, 1, 1, 5));
        script.fork().join(0, 0, 0).due("9: ahead of the EFFECT", 1, x -> x.reserve(0, 0, 0, 5));
        Script away = script.fork().join(0, 0, 0).clock(4).withdraw(1, 0, 0);
        away.refused("9: withdrawn, though it is A PARTY still", -6, x -> x.reserve(0, 0, 0, 5));
        away.due("21: A PARTY still", 0, x -> x.member(0, 0, 5, 4));
        Script followed = script.fork().join(0, 0, 0).clock(4).follow(1, 1, 0, 0, true);
        followed.refused("9: followed, though it is A PARTY still", -6, x -> x.reserve(0, 0, 0, 5));
        followed.due("9: the one behind it", 2, x -> x.reserve(1, 0, 0, 5));
    }

    /** PARTIES 0 and 1 BELONG (PAPERS 0, 1), 0 has a RESERVE (2), 1 a CHANGE (3); on DAY 10. */
    private static Script reserved() {
        return script().join(0, 0, 0).join(1, 1, 0).clock(10).reserve(2, 0, 0, 0, 5).change(3, 1, 0, 0, 6);
    }

    private static void objectInOrder() {
        Script script = reserved();
        script.refused("10: no such PAPER", -2, x -> x.object(1, 4, true));
        script.refused("10: a MEMBERSHIP", -2, x -> x.object(1, 0, true));
        script.refused("10: a CHANGE", -2, x -> x.object(0, 3, true));
        script.refused("10: a CHANGE that it HOLDS", -2, x -> x.object(1, 3, true));
        script.refused("10: a CHANGE, and it does not BELONG", -2, x -> x.object(2, 3, true));
        script.refused("10: no such PARTY", -2, x -> x.object(4, 2, true));
        script.refused("10: does not BELONG", -6, x -> x.object(2, 2, true));
        script.refused("10: it HOLDS r", -7, x -> x.object(0, 2, true));
        script.fork().join(4, 2, 1).refused("10: BELONGS to another", -6, x -> x.object(2, 2, true));
        script.fork().sign(4, 2, 0).refused("10: signed alone", -6, x -> x.object(2, 2, true));
        script.fork().notes(4, 4).refused("10: a NOTE", -2, x -> x.object(1, 4, true));
        script.fork().sign(4, 2, 0).refused("10: a SIGN", -2, x -> x.object(1, 4, true));
        script.fork().consent(4, 1, 3).refused("10: a CONSENT", -2, x -> x.object(0, 4, true));
        script.fork().object(4, 1, 2, true).refused("10: an OBJECT", -2, x -> x.object(0, 4, true));
        script.fork().withdraw(4, 0, 2).refused("10: a WITHDRAW", -2, x -> x.object(1, 4, true));
        script.fork().follow(4, 2, 0, 0, true).refused("10: a FOLLOW", -2, x -> x.object(1, 4, true));
        script.fork().withdraw(4, 0, 2).due("10: a RESERVE that was withdrawn", 5, x -> x.object(1, 2, true));
        script.fork().withdraw(4, 0, 2).clock(15).due("10: one that STANDS no more", 5, x -> x.object(1, 2, true));
        script.due("10: one that STANDS not yet", 4, x -> x.object(1, 2, true));
        Script late = script.fork().object(4, 1, 2, true).clock(16);
        late.refused("10: no RESERVE, and too late", -2, x -> x.object(1, 3, true));
        late.refused("10: does not BELONG, and too late", -6, x -> x.object(2, 2, true));
        late.refused("10: it HOLDS r, and too late", -7, x -> x.object(0, 2, true));
        late.refused("10: too late, and there is one", -3, x -> x.object(1, 2, true));
        late.fork().withdraw(5, 1, 1).refused("10: BELONGS no more, too late, there is one", -6,
            x -> x.object(1, 2, true));
        script.fork().object(4, 1, 2, true).withdraw(5, 1, 1)
            .refused("10: BELONGS no more, and there is one", -6, x -> x.object(1, 2, true));
    }

    /** The RESERVE has its EFFECT on DAY 12, a FOLLOW LODGED on 10 on 12, one LODGED on 11 on 13. */
    private static void objectToWhatItHolds() {
        Script script = reserved();
        script.fork().follow(4, 2, 0, 0, true).due("10: r had no EFFECT on the DAY ahead", 5,
            x -> x.object(2, 2, true));
        Script held = script.fork().clock(11).follow(4, 2, 0, 0, true);
        held.refused("10: r had it on the DAY ahead", -7, x -> x.object(2, 2, true));
        held.fork().clock(15).refused("10: HELD, in time", -7, x -> x.object(2, 2, true));
        held.fork().clock(16).refused("10: HELD, and too late", -7, x -> x.object(2, 2, true));
        held.fork().withdraw(5, 2, 2).refused("10: HELD, if withdrawn", -7, x -> x.object(2, 2, true));
        held.fork().withdraw(5, 2, 2).clock(15).refused("10: HELD, though it STANDS no more", -7,
            x -> x.object(2, 2, true));
        held.refused("10: the one ahead BELONGS no more", -6, x -> x.object(0, 2, true));
        held.fork().join(5, 0, 0).due("10: with a new MEMBERSHIP", 6, x -> x.object(0, 2, true));
        script.fork().clock(11).follow(4, 2, 0, 0, false).due("10: a FOLLOW without PAPERS", 5,
            x -> x.object(2, 2, true));
        script.fork().withdraw(4, 0, 2).clock(11).follow(5, 2, 0, 0, true)
            .due("10: r was withdrawn on the DAY ahead", 6, x -> x.object(2, 2, true));
        script.fork().clock(11).withdraw(4, 0, 2).follow(5, 2, 0, 0, true)
            .refused("10: r was withdrawn on the very DAY", -7, x -> x.object(2, 2, true));
    }

    private static void objectOnceMore() {
        Script script = reserved().object(4, 1, 2, true);
        script.refused("10: there is a mild one", -4, x -> x.object(1, 2, false));
        script.refused("10: there is a mild one, again", -4, x -> x.object(1, 2, true));
        reserved().object(4, 1, 2, false).refused("10: there is a strong one", -4, x -> x.object(1, 2, true));
        script.due("10: to another RESERVE", 6, x -> {
            x.reserve(0, 0, 0, 5);
            return x.object(1, 5, true);
        });
        script.fork().join(5, 2, 0).due("10: of another", 6, x -> x.object(2, 2, true));
        Script away = script.fork().withdraw(5, 1, 4);
        away.due("10: a WITHDRAW names it, if without EFFECT", 6, x -> x.object(1, 2, false));
        away.fork().object(6, 1, 2, false).refused("10: there is a second", -4, x -> x.object(1, 2, true));
        away.undo(5).refused("10: the WITHDRAW is gone", -4, x -> x.object(1, 2, false));
        script.fork().undo(4).due("10: the OBJECT is gone", 4, x -> x.object(1, 2, false));
        script.fork().withdraw(5, 1, 1).join(6, 1, 0).due("10: OF a MEMBERSHIP before", 7, x -> x.object(1, 2, true));
        Script behind = script.fork().follow(5, 2, 1, 0, true);
        behind.due("10: HELD, but of another", 6, x -> x.object(2, 2, false));
    }

    private static void objectInTime() {
        int[] spans = {0, 1, 2, 999, 1000};
        for (int span : spans) {
            Script script = new Script(check).parties(2).agreement(0, 1, 1, 7, span)
                .join(0, 0, 0).join(1, 1, 0).clock(30).reserve(2, 0, 0, 0, 5);
            script.due("10: on the DAY, SPAN " + span, 3, x -> x.object(1, 2, true));
            script.fork().clock(30 + Math.max(span - 1, 0))
                .due("10: a DAY less than SPAN " + span, 3, x -> x.object(1, 2, false));
            script.fork().clock(30 + span).due("10: SPAN " + span, 3, x -> x.object(1, 2, true));
            script.fork().clock(30 + span + 1).refused("10: a DAY more than SPAN " + span, -3,
                x -> x.object(1, 2, true));
            script.fork().clock(73000).refused("10: on the last DAY, SPAN " + span, -3, x -> x.object(1, 2, false));
        }
    }

    private static void withdrawInOrder() {
        Script script = reserved();
        script.refused("11: no such PAPER", -2, x -> x.withdraw(0, 4));
        script.refused("11: no such PARTY", -2, x -> x.withdraw(4, 2));
        script.refused("11: a CHANGE of its", -2, x -> x.withdraw(1, 3));
        script.refused("11: a CHANGE, and it does not BELONG", -2, x -> x.withdraw(2, 3));
        script.refused("11: a CHANGE of another", -2, x -> x.withdraw(0, 3));
        script.refused("11: does not BELONG", -6, x -> x.withdraw(2, 2));
        script.refused("11: the RESERVE of another", -7, x -> x.withdraw(1, 2));
        script.refused("11: the MEMBERSHIP of another", -7, x -> x.withdraw(1, 0));
        Script twice = script.fork().withdraw(4, 0, 2);
        twice.refused("11: a WITHDRAW names it", -4, x -> x.withdraw(0, 2));
        twice.refused("11: a WITHDRAW names it, and it is of another", -7, x -> x.withdraw(1, 2));
        twice.refused("11: a WITHDRAW names it, and p does not BELONG", -6, x -> x.withdraw(2, 2));
        twice.refused("11: a WITHDRAW", -2, x -> x.withdraw(0, 4));
        twice.refused("11: a WITHDRAW, and p does not BELONG", -2, x -> x.withdraw(2, 4));
        twice.fork().clock(12).refused("11: it has its EFFECT", -4, x -> x.withdraw(0, 2));
        twice.undo(4).due("11: the WITHDRAW is gone", 4, x -> x.withdraw(0, 2));
        Script away = script.fork().withdraw(4, 0, 0);
        away.refused("11: of its own MEMBERSHIP, again", -6, x -> x.withdraw(0, 0));
        away.refused("11: of its RESERVE, when it BELONGS no more", -6, x -> x.withdraw(0, 2));
        away.fork().join(5, 0, 0).refused("11: of its MEMBERSHIP before", -7, x -> x.withdraw(0, 0));
        away.fork().join(5, 0, 0).refused("11: of a RESERVE OF that", -7, x -> x.withdraw(0, 2));
        away.fork().join(5, 0, 0).due("11: of its MEMBERSHIP now", 6, x -> x.withdraw(0, 5));
        script.fork().join(4, 0, 1).reserve(5, 0, 1, 0, 5).withdraw(6, 0, 4)
            .refused("11: BELONGS to another alone", -6, x -> x.withdraw(0, 5));
    }

    private static void withdrawOfKinds() {
        Script script = script().sign(0, 0, 0).ratify(1, 0, 0).join(2, 1, 0).follow(3, 2, 1, 0, true)
            .reserve(4, 0, 0, 0, 5).object(5, 2, 4, true).change(6, 0, 0, 0, 6).consent(7, 0, 6)
            .withdraw(8, 0, 7).notes(9, 9);
        script.refused("11: a SIGN", -2, x -> x.withdraw(0, 0));
        script.due("11: a RATIFY", 10, x -> x.withdraw(0, 1));
        script.refused("11: a JOIN that was followed, of the one that is", -6, x -> x.withdraw(1, 2));
        script.refused("11: a JOIN that was followed, of the one behind it", -7, x -> x.withdraw(2, 2));
        script.due("11: a FOLLOW", 10, x -> x.withdraw(2, 3));
        script.due("11: a RESERVE", 10, x -> x.withdraw(0, 4));
        script.due("11: an OBJECT", 10, x -> x.withdraw(2, 5));
        script.refused("11: a CHANGE", -2, x -> x.withdraw(0, 6));
        script.refused("11: a CONSENT that was withdrawn", -4, x -> x.withdraw(0, 7));
        script.refused("11: a WITHDRAW", -2, x -> x.withdraw(0, 8));
        script.refused("11: a NOTE", -2, x -> x.withdraw(0, 9));
        script.fork().join(10, 1, 0).due("11: a JOIN", 11, x -> x.withdraw(1, 10));
        script.fork().consent(10, 0, 6).due("11: a CONSENT", 11, x -> x.withdraw(0, 10));
    }

    /** The RESERVE has its EFFECT on DAY 12, a FOLLOW LODGED on 10 on 12, one LODGED on 11 on 13. */
    private static void withdrawWhatItHolds() {
        Script script = script().join(0, 0, 0).clock(10).reserve(1, 0, 0, 0, 5);
        script.fork().follow(2, 1, 0, 0, true).refused("11: it had no EFFECT on the DAY ahead", -7,
            x -> x.withdraw(1, 1));
        Script later = script.fork().clock(11);
        later.fork().follow(2, 1, 0, 0, true).due("11: it had it on the DAY ahead", 3, x -> x.withdraw(1, 1));
        later.fork().follow(2, 1, 0, 0, false).refused("11: without PAPERS", -7, x -> x.withdraw(1, 1));
        later.fork().withdraw(2, 0, 1).follow(3, 1, 0, 0, true)
            .refused("11: HELD, but the one ahead had withdrawn it", -4, x -> x.withdraw(1, 1));
        script.fork().withdraw(2, 0, 1).clock(11).follow(3, 1, 0, 0, true)
            .refused("11: not HELD, and a WITHDRAW names it", -7, x -> x.withdraw(1, 1));
        Script chain = later.fork().follow(2, 1, 0, 0, true).follow(3, 2, 1, 0, true);
        chain.due("11: HELD behind two", 4, x -> x.withdraw(2, 1));
        chain.refused("11: one between them BELONGS no more", -6, x -> x.withdraw(1, 1));
        chain.refused("11: the MEMBERSHIP that it names", -7, x -> x.withdraw(2, 2));
        Script early = script.fork().follow(2, 1, 0, 0, true).clock(11).follow(3, 2, 1, 0, true);
        early.refused("11: it STOOD ahead of the second FOLLOW, not of the first", -7, x -> x.withdraw(2, 1));
        Script gap = later.fork().follow(2, 1, 0, 0, false).follow(3, 2, 1, 0, true);
        gap.refused("11: behind one without PAPERS", -7, x -> x.withdraw(2, 1));
        Script last = later.fork().follow(2, 1, 0, 0, true).follow(3, 2, 1, 0, false);
        last.refused("11: itself without PAPERS", -7, x -> x.withdraw(2, 1));
    }

    private static void change() {
        Script script = script();
        script.refused("12: does not BELONG", -6, x -> x.change(0, 0, 0, 5));
        script.refused("12: does not BELONG, and words 0", -2, x -> x.change(0, 0, 0, 0));
        script.refused("12: does not BELONG, and words too many", -2, x -> x.change(0, 0, 0, 1000001));
        script.refused("12: does not BELONG, and no ARTICLE", -2, x -> x.change(0, 0, 3, 5));
        script.fork().sign(0, 0, 0).refused("12: signed alone", -6, x -> x.change(0, 0, 0, 5));
        script.fork().join(0, 0, 1).refused("12: to another", -6, x -> x.change(0, 0, 0, 5));
        Script joined = script.fork().join(0, 0, 0);
        joined.refused("12: words 0", -2, x -> x.change(0, 0, 0, 0));
        joined.due("12: ahead of the EFFECT", 1, x -> x.change(0, 0, 0, 5));
        joined.fork().withdraw(1, 0, 0).refused("12: withdrawn", -6, x -> x.change(0, 0, 0, 5));
        joined.fork().follow(1, 1, 0, 0, true).refused("12: followed", -6, x -> x.change(0, 0, 0, 5));
    }

    private static void consent() {
        Script script = reserved();
        script.refused("13: no such PAPER", -2, x -> x.consent(0, 4));
        script.refused("13: no such PARTY", -2, x -> x.consent(4, 3));
        script.refused("13: a RESERVE", -2, x -> x.consent(0, 2));
        script.refused("13: a RESERVE, and it does not BELONG", -2, x -> x.consent(2, 2));
        script.refused("13: a MEMBERSHIP", -2, x -> x.consent(0, 1));
        script.refused("13: does not BELONG", -6, x -> x.consent(2, 3));
        script.fork().join(4, 2, 1).refused("13: BELONGS to another", -6, x -> x.consent(2, 3));
        Script once = script.fork().consent(4, 0, 3);
        once.refused("13: there is one", -4, x -> x.consent(0, 3));
        once.refused("13: a CONSENT", -2, x -> x.consent(1, 4));
        once.due("13: of the other", 5, x -> x.consent(1, 3));
        once.fork().change(5, 0, 0, 0, 6).due("13: to another CHANGE", 6, x -> x.consent(0, 5));
        once.fork().clock(73000).refused("13: there is one, on the last DAY", -4, x -> x.consent(0, 3));
        Script away = once.fork().withdraw(5, 0, 4);
        away.due("13: a WITHDRAW names it, if without EFFECT", 6, x -> x.consent(0, 3));
        away.undo(5).refused("13: the WITHDRAW is gone", -4, x -> x.consent(0, 3));
        once.fork().undo(4).due("13: it is gone", 4, x -> x.consent(0, 3));
        Script left = once.fork().withdraw(5, 0, 0);
        left.refused("13: BELONGS no more, and there is one", -6, x -> x.consent(0, 3));
        left.fork().join(6, 0, 0).due("13: OF a MEMBERSHIP before", 7, x -> x.consent(0, 3));
        once.fork().follow(5, 2, 0, 0, true).due("13: HELD, but of another", 6, x -> x.consent(2, 3));
        script.fork().withdraw(4, 1, 1).due("13: its PARTY is away", 5, x -> x.consent(0, 3));
    }

    private static void follow() {
        Script script = script().join(0, 0, 0);
        script.refused("14: no such PARTY p", -2, x -> x.follow(4, 0, 0, true));
        script.refused("14: no such PARTY q, and p BELONGS", -2, x -> x.follow(0, 4, 0, true));
        script.refused("14: no such PARTY q", -2, x -> x.follow(1, 4, 0, false));
        script.refused("14: no such AGREEMENT", -2, x -> x.follow(1, 0, 2, false));
        script.refused("14: no such AGREEMENT, and p is q", -2, x -> x.follow(1, 1, 2, false));
        script.refused("14: no such PARTY, and p is q", -2, x -> x.follow(4, 4, 0, false));
        script.refused("14: p BELONGS, and q does not", -4, x -> x.follow(0, 1, 0, true));
        script.refused("14: p is q, and does not BELONG", -4, x -> x.follow(1, 1, 0, true));
        script.refused("14: p is q, and BELONGS", -4, x -> x.follow(0, 0, 0, true));
        script.refused("14: q does not BELONG", -6, x -> x.follow(1, 2, 0, true));
        script.refused("14: q does not BELONG to the other", -6, x -> x.follow(1, 0, 1, true));
        script.fork().join(1, 1, 0).refused("14: both BELONG", -4, x -> x.follow(0, 1, 0, true));
        script.fork().join(1, 1, 1).due("14: p BELONGS to the other alone", 2, x -> x.follow(1, 0, 0, true));
        script.fork().sign(1, 1, 0).due("14: p has signed", 2, x -> x.follow(1, 0, 0, true));
        script.fork().sign(1, 1, 0).refused("14: q has signed alone", -6, x -> x.follow(2, 1, 0, true));
        script.due("14: ahead of the EFFECT of q's", 1, x -> x.follow(1, 0, 0, true));
        script.fork().withdraw(1, 0, 0).refused("14: q's is withdrawn", -6, x -> x.follow(1, 0, 0, true));
        Script behind = script.fork().follow(1, 1, 0, 0, true);
        behind.refused("14: q's is followed", -6, x -> x.follow(2, 0, 0, true));
        behind.refused("14: p BELONGS by a FOLLOW", -4, x -> x.follow(1, 0, 0, true));
        behind.due("14: behind a FOLLOW", 2, x -> x.follow(2, 1, 0, true));
        behind.due("14: back again", 2, x -> x.follow(0, 1, 0, true));
        behind.undo(1).due("14: the FOLLOW is gone", 1, x -> x.follow(2, 0, 0, true));
    }

    private static void undo() {
        Script script = script().clock(3);
        script.refused("16: no PAPER", NONE, x -> x.undo());
        script.fork().join(0, 0, 0).clock(3).due("16: on the same DAY", 0, x -> x.undo());
        Script later = script.fork().join(0, 0, 0).clock(4);
        later.refused("16: a DAY later", NONE, x -> x.undo());
        later.fork().clock(73000).refused("16: on the last DAY", NONE, x -> x.undo());
        undoOfAnother();
        Script more = later.fork().notes(1, 2).undo(2).undo(1);
        more.refused("16: those of the DAY alone", NONE, x -> x.undo());
        more.due("16: the number is given out again", 1, x -> x.note(3));
        Script first = script().join(0, 0, 0).undo(0);
        first.refused("16: all are gone", NONE, x -> x.undo());
        first.due("16: PAPER 0 is given out again", 0, x -> x.sign(0, 0));
        first.due("4: no PAPER about g any more", 1, x -> x.article(0, 0, 5));
        Script last = script().clock(73000).notes(0, 0);
        last.due("16: LODGED on the last DAY", 0, x -> x.undo());
        Script full = script().notes(0, 399);
        full.due("16: of 400", 399, x -> x.undo());
        full.undo(399).due("16: and one more", 398, x -> x.undo());
        full.undo(398).due("16: number 398 again", 398, x -> x.note(1));
    }

    /** A PAPER of a DAY before still names what it named, when undo() was refused. */
    private static void undoOfAnother() {
        Script script = reserved().consent(4, 0, 3);
        script.fork().object(5, 1, 2, true).clock(11).refused("16: an OBJECT of the DAY before", NONE, x -> x.undo());
        script.fork().object(5, 1, 2, false).clock(11).refused("16: a strong one", NONE, x -> x.undo());
        script.fork().withdraw(5, 0, 2).clock(11).refused("16: a WITHDRAW", NONE, x -> x.undo());
        script.fork().withdraw(5, 0, 0).clock(11).refused("16: one of a MEMBERSHIP", NONE, x -> x.undo());
        script.fork().follow(5, 2, 1, 0, true).clock(11).refused("16: a FOLLOW", NONE, x -> x.undo());
        Script agreed = script().join(0, 0, 0).join(1, 1, 0).change(2, 0, 0, 0, 70).consent(3, 0, 2)
            .consent(4, 1, 2).clock(1);
        agreed.refused("16: a CONSENT", NONE, x -> x.undo());
        agreed.due("18: it is there", 70, x -> x.words(0, 1, 0, 0, 2, 1));
    }

    /** PARTY 0 has signed and ratified 0 and signed 1, PARTY 1 has joined 0; 400 PAPERS. */
    private static void noRoomToEnter() {
        Script script = script().sign(0, 0, 0).ratify(1, 0, 0).join(2, 1, 0).sign(3, 0, 1).notes(4, 398);
        script.due("6: the last of 400", 399, x -> x.sign(1, 0));
        script.due("7: the last of 400", 399, x -> x.ratify(0, 1));
        script.due("8: the last of 400", 399, x -> x.join(2, 0));
        script.due("14: the last of 400", 399, x -> x.follow(2, 0, 0, true));
        script.due("9: the last of 400", 399, x -> x.reserve(0, 0, 0, 5));
        script.due("12: the last of 400", 399, x -> x.change(0, 0, 0, 5));
        script.due("11: the last of 400", 399, x -> x.withdraw(0, 1));
        script.refused("6: there is one, room for one more", -4, x -> x.sign(0, 0));
        script.notes(399, 399);
        script.refused("6: no room", -8, x -> x.sign(1, 0));
        script.refused("6: no room, and there is one", -8, x -> x.sign(0, 0));
        script.refused("6: no such PARTY, and no room", -2, x -> x.sign(4, 0));
        script.refused("6: no such AGREEMENT, and no room", -2, x -> x.sign(0, 2));
        script.refused("7: no room", -8, x -> x.ratify(0, 1));
        script.refused("7: no room, and no SIGN", -8, x -> x.ratify(2, 0));
        script.refused("7: no room, and it BELONGS", -8, x -> x.ratify(0, 0));
        script.refused("7: no room, no SIGN, and it BELONGS", -8, x -> x.ratify(1, 0));
        script.refused("7: no such PARTY, and no room", -2, x -> x.ratify(4, 0));
        script.refused("8: no room", -8, x -> x.join(2, 0));
        script.refused("8: no room, and it BELONGS", -8, x -> x.join(0, 0));
        script.refused("8: no such PARTY, and no room", -2, x -> x.join(4, 0));
        script.refused("9: no room", -8, x -> x.reserve(0, 0, 0, 5));
        script.refused("9: no room, and it does not BELONG", -8, x -> x.reserve(2, 0, 0, 5));
        script.refused("9: words not as told, and no room", -2, x -> x.reserve(0, 0, 0, -1));
        script.refused("9: no such ARTICLE, and no room", -2, x -> x.reserve(0, 0, 3, 5));
        script.refused("12: no room", -8, x -> x.change(0, 0, 0, 5));
        script.refused("12: no room, and it does not BELONG", -8, x -> x.change(2, 0, 0, 5));
        script.refused("12: words not as told, and no room", -2, x -> x.change(0, 0, 0, 0));
        script.refused("14: no room", -8, x -> x.follow(2, 0, 0, true));
        script.refused("14: no room, and p BELONGS", -8, x -> x.follow(0, 1, 0, true));
        script.refused("14: no room, and p is q", -8, x -> x.follow(2, 2, 0, true));
        script.refused("14: no room, and q does not BELONG", -8, x -> x.follow(2, 3, 0, true));
        script.refused("14: no such PARTY q, and no room", -2, x -> x.follow(2, 4, 0, true));
        script.refused("15: no room", -8, x -> x.note(5));
        script.due("16: undo makes room", 399, x -> {
            x.undo();
            return x.join(2, 0);
        });
        script.fork().clock(1).refused("16: none on the next DAY", NONE, x -> x.undo());
        script.fork().clock(1).refused("15: no room on the next DAY", -8, x -> x.note(5));
    }

    /** PARTIES 0 and 1 BELONG, 0 has a RESERVE (2), 1 a CHANGE (3), an OBJECT (4) and a CONSENT (5); 400 PAPERS. */
    private static void noRoomToAnswer() {
        Script script = reserved().object(4, 1, 2, true).consent(5, 1, 3).withdraw(6, 1, 5).reserve(7, 0, 0, 0, 8)
            .notes(8, 398);
        script.due("10: the last of 400", 399, x -> x.object(1, 7, true));
        script.due("13: the last of 400", 399, x -> x.consent(0, 3));
        script.due("11: the last of 400", 399, x -> x.withdraw(1, 4));
        script.notes(399, 399);
        script.refused("10: no room", -8, x -> x.object(1, 7, true));
        script.refused("10: no room, and it does not BELONG", -8, x -> x.object(2, 2, true));
        script.refused("10: no room, and it HOLDS r", -8, x -> x.object(0, 2, true));
        script.refused("10: no room, and there is one", -8, x -> x.object(1, 2, true));
        script.refused("10: no RESERVE, and no room", -2, x -> x.object(1, 3, true));
        script.refused("10: PAPER 400, and no room", -2, x -> x.object(1, 400, true));
        script.refused("10: PAPER 399 is none, and no room", -2, x -> x.object(1, 399, true));
        script.refused("11: no room", -8, x -> x.withdraw(1, 4));
        script.refused("11: no room, and it does not BELONG", -8, x -> x.withdraw(2, 4));
        script.refused("11: no room, and it is of another", -8, x -> x.withdraw(0, 4));
        script.refused("11: no room, and a WITHDRAW names it", -8, x -> x.withdraw(1, 5));
        script.refused("11: a NOTE, and no room", -2, x -> x.withdraw(0, 399));
        script.refused("11: PAPER 400, and no room", -2, x -> x.withdraw(0, 400));
        script.refused("13: no room", -8, x -> x.consent(0, 3));
        script.refused("13: no room, and it does not BELONG", -8, x -> x.consent(2, 3));
        script.refused("13: no CHANGE, and no room", -2, x -> x.consent(0, 2));
        script.refused("13: PAPER 400, and no room", -2, x -> x.consent(0, 400));
        script.fork().clock(16).refused("10: no room, and too late", -8, x -> x.object(1, 7, true));
        Script both = reserved().consent(4, 0, 3).notes(5, 399);
        both.refused("13: no room, and there is one", -8, x -> x.consent(0, 3));
    }

    private static void annex() {
        Script script = script();
        for (int annex = 0; annex < 8; annex++) {
            script.annex(annex, 0, annex % 4, 2).write(0, annex, 1, 5);
        }
        script.refused("27: there are 8", -8, x -> x.annex(0, 0, 1));
        script.refused("27: there are 8, and n below 0", -8, x -> x.annex(0, 0, -1));
        script.refused("27: no such WIDTH, and there are 8", -2, x -> x.annex(0, 4, 1));
        script.refused("27: n above 100, and there are 8", -2, x -> x.annex(0, 0, 101));
        script.refused("27: no such AGREEMENT, and n below 0", -2, x -> x.annex(2, 0, -1));
        script.refused("27: no such WIDTH, and n below 0", -2, x -> x.annex(1, -1, -1));
        script.refused("27: n below 0", -3, x -> x.annex(1, 0, -1));
        script.refused("27: n above 100", -2, x -> x.annex(1, 0, 101));
        script.tear(0, 3);
        script.refused("27: there are 8, and one is MISSING", -8, x -> x.annex(0, 0, 1));
        script.refused("28: it is MISSING", 0, x -> Script.of(x.tear(0, 3)));
        script.refused("28: there is none such", 0, x -> Script.of(x.tear(0, 8)));
        script.due("28: the one beside it", 1, x -> Script.of(x.tear(0, 4)));
        script.due("28: of the other there is none", 0, x -> Script.of(x.tear(1, 3)));
    }

    private static void annexNumbers() {
        Script script = script().annex(0, 0, 3, 2).annex(1, 0, 3, 2).annex(0, 1, 0, 0)
            .write(0, 0, 0, 7).write(0, 1, 0, 8).tear(0, 1);
        script.refused("29: no such ANNEX", -2, x -> x.write(0, 2, 0, 5));
        script.refused("29: no such ANNEX, nor number", -2, x -> x.write(0, 2, 9, 5));
        script.refused("29: no such AGREEMENT", -2, x -> x.write(2, 0, 0, 5));
        script.refused("29: it is MISSING", -5, x -> x.write(0, 1, 0, 5));
        script.refused("29: it is MISSING, and no such number", -5, x -> x.write(0, 1, 2, 5));
        script.refused("29: it is MISSING, and number -1", -5, x -> x.write(0, 1, -1, 5));
        script.refused("29: no such number", -6, x -> x.write(0, 0, 2, 5));
        script.refused("29: number -1", -6, x -> x.write(0, 0, -1, 5));
        script.refused("29: of an ANNEX of none", -6, x -> x.write(1, 0, 0, 5));
        script.refused("30: no such ANNEX", 0, x -> x.read(0, 2, 0));
        script.refused("30: no such AGREEMENT", 0, x -> x.read(2, 0, 0));
        script.refused("30: it is MISSING", 0, x -> x.read(0, 1, 0));
        script.refused("30: no such number", 0, x -> x.read(0, 0, 2));
        script.refused("30: number -1", 0, x -> x.read(0, 0, -1));
        script.due("30: there it is", 7, x -> x.read(0, 0, 0));
        script.refused("31: it is MISSING", -5, x -> x.size(0, 1));
        script.refused("31: there is none such", -2, x -> x.size(0, 2));
        script.refused("31: of no AGREEMENT", -2, x -> x.size(2, 0));
    }

    /** Of AGREEMENT 0: ANNEX 0 of 4 numbers, 1 of 2, 2 of another WIDTH, 3 MISSING, 4 MISSING of another WIDTH. */
    private static void copy() {
        Script script = script().annex(0, 0, 1, 4).annex(1, 0, 1, 2).annex(2, 0, 2, 4).annex(3, 0, 1, 4)
            .annex(4, 0, 2, 4).tear(0, 3).tear(0, 4);
        for (int i = 0; i < 4; i++) {
            script.write(0, 0, i, 10 + i).write(0, 2, i, 20 + i);
        }
        script.refused("32: no x", -2, x -> x.copy(0, 5, 0, 0, 0, 0, 1));
        script.refused("32: no y", -2, x -> x.copy(0, 0, 0, 0, 5, 0, 1));
        script.refused("32: no x, and y is MISSING", -2, x -> x.copy(0, 5, 0, 0, 3, 0, 1));
        script.refused("32: no y, and x is MISSING", -2, x -> x.copy(0, 3, 0, 0, 5, 0, 1));
        script.refused("32: no x, and n below 0", -2, x -> x.copy(0, 5, 0, 0, 0, 0, -1));
        script.refused("32: no y, and n below 0", -2, x -> x.copy(0, 0, 0, 0, 5, 0, -1));
        script.refused("32: no y, of h", -2, x -> x.copy(0, 0, 0, 1, 0, 0, 1));
        script.refused("32: x is MISSING", -5, x -> x.copy(0, 3, 0, 0, 0, 0, 1));
        script.refused("32: y is MISSING", -5, x -> x.copy(0, 0, 0, 0, 3, 0, 1));
        script.refused("32: both are MISSING", -5, x -> x.copy(0, 3, 0, 0, 4, 0, 1));
        script.refused("32: y is MISSING, of another WIDTH", -5, x -> x.copy(0, 0, 0, 0, 4, 0, 1));
        script.refused("32: x is MISSING, of another WIDTH", -5, x -> x.copy(0, 4, 0, 0, 0, 0, 1));
        script.refused("32: y is MISSING, and n below 0", -5, x -> x.copy(0, 0, 0, 0, 3, 0, -1));
        script.refused("32: x is MISSING, and has not so many", -5, x -> x.copy(0, 3, 4, 0, 0, 0, 1));
        script.refused("32: MISSING onto itself, none", -5, x -> x.copy(0, 3, 0, 0, 3, 0, 0));
        script.refused("32: not of one WIDTH", -7, x -> x.copy(0, 0, 0, 0, 2, 0, 1));
        script.refused("32: not of one WIDTH, none", -7, x -> x.copy(0, 0, 0, 0, 2, 0, 0));
        script.refused("32: not of one WIDTH, and i below 0", -7, x -> x.copy(0, 0, -1, 0, 2, 0, 1));
        script.refused("32: not of one WIDTH, and j below 0", -7, x -> x.copy(0, 0, 0, 0, 2, -1, 1));
        script.refused("32: not of one WIDTH, and n below 0", -7, x -> x.copy(0, 0, 0, 0, 2, 0, -1));
        script.refused("32: not of one WIDTH, and not so many", -7, x -> x.copy(0, 0, 0, 0, 2, 0, 5));
        script.refused("32: x has not so many", -6, x -> x.copy(0, 1, 0, 0, 0, 0, 3));
        script.refused("32: y has not so many", -6, x -> x.copy(0, 0, 0, 0, 1, 0, 3));
        script.refused("32: y has not so many from j on", -6, x -> x.copy(0, 0, 0, 0, 1, 1, 2));
        script.refused("32: x has not so many from i on", -6, x -> x.copy(0, 0, 3, 0, 1, 0, 2));
        script.refused("32: i and n wrap around", -6, x -> x.copy(0, 0, 1, 0, 1, 0, Integer.MAX_VALUE));
        script.refused("32: j and n wrap around", -6, x -> x.copy(0, 0, 0, 0, 1, 1, Integer.MAX_VALUE));
        script.refused("32: i wraps around", -6, x -> x.copy(0, 0, Integer.MAX_VALUE, 0, 1, 0, 1));
        script.refused("32: j wraps around", -6, x -> x.copy(0, 0, 0, 0, 1, Integer.MAX_VALUE, 1));
        script.due("32: as many as y has", 0, x -> x.copy(0, 0, 2, 0, 1, 0, 2));
        script.due("32: as many as x has", 0, x -> x.copy(0, 1, 0, 0, 0, 2, 2));
    }
}
