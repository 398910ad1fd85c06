import java.util.ArrayList;
import java.util.List;

/**
 * Terms 2 and 3 and promises 17 to 24: each DAY, number and count on which an answer turns, with the one below it, the
 * one on it and the one above it.
 */
public final class TermsTest {
    private static final int NONE = TreatyHouse.NONE;
    private static final int[] WAITS = {0, 1, 2, 999, 1000};
    private static final Check check = new Check();

    public static void main(String[] args) {
        effects();
        effectsOnTheLastDays();
        standsByItsEffect();
        standsUntilAWithdraw();
        standsUntilAFollow();
        papersStand();
        asKnown();
        heldOnTheDayAhead();
        heldUntilTheDayAhead();
        heldThroughEach();
        heldOnDayZero();
        neededParties();
        whyTheNeeded();
        notBoundFirst();
        strongObjects();
        strongObjectsOfOne();
        whyStrong();
        theGreatestReserve();
        wordsOfReserve();
        whyMild();
        changes();
        whyChanged();
        whySources();
        first();
        firstOnEachDay();
        since();
        longFollowing();
        nothingIsLeftOver();
        fiveHundredAndTwelve();
        check.end();
    }

    private static Script script(int parties, int articles, int needed, int wait) {
        return new Script(check).parties(parties).agreement(0, articles, needed, wait, 1000);
    }

    private static void dueBetween(String name, Script script, int[] six, int answer, int words, int... why) {
        TreatyHouse x = script.play();
        int[] s = six;
        check.due("17: " + name, x.between(s[0], s[1], s[2], s[3], s[4], s[5]), answer);
        check.due("17: " + name + ", the other way", x.between(s[1], s[0], s[2], s[3], s[4], s[5]), answer);
        check.due("18: " + name, x.words(s[0], s[1], s[2], s[3], s[4], s[5]), words);
        check.due("18: " + name + ", the other way", x.words(s[1], s[0], s[2], s[3], s[4], s[5]), words);
        check.dueRow("19: " + name, Check.why(x, s[0], s[1], s[2], s[3], s[4], s[5]), why);
        check.dueRow("19: " + name + ", the other way", Check.why(x, s[1], s[0], s[2], s[3], s[4], s[5]), why);
        check.due("19: " + name + ", behind the last", x.why(s[0], s[1], s[2], s[3], s[4], s[5], why.length), NONE);
        check.due("19: " + name + ", -1", x.why(s[0], s[1], s[2], s[3], s[4], s[5], -1), NONE);
    }

    private static int[] of(int p, int q, int a, int d, int k) {
        return new int[] {p, q, 0, a, d, k};
    }

    /** Term 2: the EFFECT is LODGED and WAIT; of SIGN, OBJECT, CHANGE and NOTE it is LODGED. */
    private static void effects() {
        boolean[] waits = {false, true, true, true, false, true, false, true, true, false};
        int[] days = {0, 1, 71999, 72000, 72001, 73000};
        for (int wait : WAITS) {
            for (int day : days) {
                Script script = script(3, 1, 1, wait).clock(day).sign(0, 0, 0).ratify(1, 0, 0).join(2, 1, 0)
                    .reserve(3, 0, 0, 0, 5).object(4, 1, 3, true).withdraw(5, 1, 4).change(6, 1, 0, 0, 5)
                    .consent(7, 0, 6).follow(8, 2, 1, 0, true).notes(9, 9);
                for (int paper = 0; paper < 10; paper++) {
                    int number = paper;
                    String name = "25: WAIT " + wait + " on DAY " + day + ", KIND " + paper;
                    script.due(name, paper, x -> x.paper(number, 0));
                    script.due(name + ", LODGED", day, x -> x.paper(number, 3));
                    script.due(name + ", EFFECT", waits[paper] ? day + wait : day, x -> x.paper(number, 4));
                }
            }
        }
    }

    private static void effectsOnTheLastDays() {
        for (int late = -1; late <= 1; late++) {
            int day = 72000 + late;
            Script script = script(2, 1, 1, 1000).clock(day).join(0, 0, 0);
            script.due("21: EFFECT on " + (day + 1000), late > 0 ? NONE : 0, x -> x.member(0, 0, 73000, day));
            script.due("21: the DAY ahead", late < 0 ? 0 : NONE, x -> x.member(0, 0, 72999, day));
            script.due("8: it BELONGS", -4, x -> x.join(0, 0));
            script.clock(73000);
            script.due("23: EFFECT on " + (day + 1000), late > 0 ? NONE : day + 1000, x -> x.since(0));
        }
    }

    private static void standsByItsEffect() {
        for (int wait : WAITS) {
            Script script = script(2, 1, 1, wait).clock(50).join(0, 0, 0).join(1, 1, 0);
            int effect = 50 + wait;
            for (int d = effect - 1; d <= effect + 1; d++) {
                int day = d;
                String name = "WAIT " + wait + ", on " + (d - effect) + " from its EFFECT";
                boolean stands = d >= effect;
                script.due("21: " + name, stands ? 0 : NONE, x -> x.member(0, 0, day, 50));
                script.due("22: " + name, stands ? 2 : 0, x -> x.members(0, day, 50));
                script.due("17: " + name, stands ? 1 : 0, x -> x.between(0, 1, 0, 0, day, 50));
            }
            script.due("21: on DAY 0", NONE, x -> x.member(0, 0, 0, 50));
            script.due("21: on the last DAY", 0, x -> x.member(0, 0, 73000, 50));
        }
    }

    private static void standsUntilAWithdraw() {
        for (int wait : WAITS) {
            Script script = script(2, 1, 1, wait).join(0, 0, 0).join(1, 1, 0).clock(2000).withdraw(2, 0, 0);
            int effect = 2000 + wait;
            for (int d = effect - 1; d <= effect + 1; d++) {
                int day = d;
                String name = "WAIT " + wait + ", on " + (d - effect) + " from the WITHDRAW's EFFECT";
                boolean stands = d < effect;
                script.due("21: " + name, stands ? 0 : NONE, x -> x.member(0, 0, day, 2000));
                script.due("22: " + name, stands ? 2 : 1, x -> x.members(0, day, 2000));
                script.due("17: " + name, stands ? 1 : 0, x -> x.between(0, 1, 0, 0, day, 2000));
                script.due("21: " + name + ", not known", 0, x -> x.member(0, 0, day, 1999));
            }
            Script again = script.fork().join(3, 0, 0);
            again.due("21: in again, the DAY ahead", 0, x -> x.member(0, 0, effect - 1, 2000));
            again.due("21: in again, on the DAY", 3, x -> x.member(0, 0, effect, 2000));
            again.due("22: in again, both at no time", 2, x -> x.members(0, effect - 1, 2000));
            again.due("22: in again, one at all times", 2, x -> x.members(0, effect, 2000));
        }
    }

    private static void standsUntilAFollow() {
        for (int wait : WAITS) {
            Script script = script(3, 1, 1, wait).join(0, 0, 0).join(1, 1, 0).clock(2000).follow(2, 2, 0, 0, false);
            int effect = 2000 + wait;
            for (int d = effect - 1; d <= effect + 1; d++) {
                int day = d;
                String name = "WAIT " + wait + ", on " + (d - effect) + " from the FOLLOW's EFFECT";
                boolean stands = d < effect;
                script.due("21: the one ahead, " + name, stands ? 0 : NONE, x -> x.member(0, 0, day, 2000));
                script.due("21: the one behind, " + name, stands ? NONE : 2, x -> x.member(2, 0, day, 2000));
                script.due("22: " + name, 2, x -> x.members(0, day, 2000));
                script.due("21: the one ahead, " + name + ", not known", 0, x -> x.member(0, 0, day, 1999));
                script.due("21: the one behind, " + name + ", not known", NONE, x -> x.member(2, 0, day, 1999));
            }
        }
    }

    /** The PAPERS that a PARTY HAS, by their EFFECTS and those of the WITHDRAWS that name them. */
    private static void papersStand() {
        Script script = script(2, 1, 1, 3).join(0, 0, 0).join(1, 1, 0).clock(10).reserve(2, 0, 0, 0, 5)
            .change(3, 0, 0, 0, 6).consent(4, 0, 3).reserve(5, 1, 0, 0, 7).object(6, 0, 5, true)
            .clock(20).withdraw(7, 0, 2).withdraw(8, 0, 4).withdraw(9, 0, 6);
        int[][] due = {{9}, {10, 3, 6}, {11, 3, 6}, {12, 3, 6}, {13, 2, 3, 4, 6}, {14, 2, 3, 4, 6}, {22, 2, 3, 4, 6},
            {23, 3}, {24, 3}};
        TreatyHouse x = script.play();
        for (int[] row : due) {
            int[] papers = java.util.Arrays.copyOfRange(row, 1, row.length);
            check.dueRow("24: on DAY " + row[0], Check.has(x, 0, 0, row[0], 20), papers);
            check.due("24: on DAY " + row[0] + ", behind the last", x.has(0, 0, row[0], 20, papers.length), NONE);
            check.due("24: on DAY " + row[0] + ", -1", x.has(0, 0, row[0], 20, -1), NONE);
        }
        check.dueRow("24: the WITHDRAWS not known", Check.has(x, 0, 0, 23, 19), 2, 3, 4, 6);
        check.dueRow("24: nothing but the JOIN known", Check.has(x, 0, 0, 23, 9));
    }

    private static void asKnown() {
        Script script = script(3, 1, 1, 0).clock(5).join(0, 0, 0).join(1, 1, 0).clock(8).reserve(2, 0, 0, 0, 30)
            .clock(11).object(3, 1, 2, true).clock(14).withdraw(4, 1, 3).clock(17).change(5, 1, 0, 0, 40)
            .clock(20).withdraw(6, 0, 2).consent(7, 0, 5).consent(8, 1, 5).clock(23).follow(9, 2, 1, 0, true)
            .clock(26).withdraw(10, 0, 0);
        int[][] due = {{4, 0, 0}, {5, 1, 1}, {6, 1, 1}, {7, 1, 1}, {8, 2, 30}, {9, 2, 30}, {10, 2, 30}, {11, 3, 0},
            {12, 3, 0}, {13, 3, 0}, {14, 2, 30}, {15, 2, 30}, {19, 2, 30}, {20, 4, 40}, {21, 4, 40}, {22, 4, 40},
            {23, 0, 0}, {24, 0, 0}};
        for (int[] row : due) {
            int k = row[0];
            script.due("17: as known on " + k, row[1], x -> x.between(0, 1, 0, 0, 73000, k));
            script.due("18: as known on " + k, row[2], x -> x.words(0, 1, 0, 0, 73000, k));
        }
        int[][] behind = {{22, 0}, {23, 4}, {24, 4}, {25, 4}, {26, 0}, {27, 0}, {73000, 0}};
        for (int[] row : behind) {
            script.due("17: the one behind, as known on " + row[0], row[1], x -> x.between(0, 2, 0, 0, 73000, row[0]));
        }
        script.due("21: as known ahead of the first DAY", NONE, x -> x.member(0, 0, 73000, 0));
        script.due("24: what it HAS, as known on 7", NONE, x -> x.has(0, 0, 73000, 7, 0));
        script.due("24: what it HAS, as known on 8", 2, x -> x.has(0, 0, 73000, 8, 0));
        script.due("24: what it HAS, as known on 20", 7, x -> x.has(0, 0, 73000, 20, 0));
    }

    /** HELD by a FOLLOW with PAPERS is what STOOD on the DAY ahead of its EFFECT, on which it began at the latest. */
    private static void heldOnTheDayAhead() {
        for (int wait : WAITS) {
            int day = 3000;
            Script script = script(3, 1, 1, wait).join(0, 0, 0).join(1, 1, 0).clock(day - 2).reserve(2, 0, 0, 0, 5)
                .clock(day - 1).reserve(3, 0, 0, 0, 6).clock(day).reserve(4, 0, 0, 0, 7).follow(5, 2, 0, 0, true);
            int[] had = Check.has(script.play(), 2, 0, day + wait, day);
            check.dueRow("24: RESERVES ahead of the FOLLOW, WAIT " + wait, had, 2, 3);
            script.due("18: the greatest that it HOLDS, WAIT " + wait, 6, x -> x.words(1, 2, 0, 0, day + wait, day));
            script.due("21: it IS no PARTY the DAY ahead", NONE, x -> x.member(2, 0, day + wait - 1, day));
            script.due("24: it HAS nothing the DAY ahead", NONE, x -> x.has(2, 0, day + wait - 1, day, 0));
            script.due("18: the one ahead, the DAY ahead", 6, x -> x.words(1, 0, 0, 0, day + wait - 1, day));
            Script changes = script(3, 1, 1, wait).join(0, 0, 0).clock(day - 1).change(1, 0, 0, 0, 5).clock(day)
                .change(2, 0, 0, 0, 6).follow(3, 2, 0, 0, true);
            int[] changesHad = Check.has(changes.play(), 2, 0, day + wait, day);
            check.due("24: CHANGES ahead of the FOLLOW, WAIT " + wait, changesHad.length, wait == 0 ? 1 : 2);
        }
    }

    private static void heldUntilTheDayAhead() {
        for (int wait : WAITS) {
            int day = 3000;
            Script script = script(3, 1, 1, wait).join(0, 0, 0).join(1, 1, 0).reserve(2, 0, 0, 0, 5)
                .reserve(3, 0, 0, 0, 6).reserve(4, 0, 0, 0, 7).reserve(5, 0, 0, 0, 8).clock(day - 1).withdraw(6, 0, 5)
                .clock(day).withdraw(7, 0, 4).follow(8, 2, 0, 0, true).withdraw(9, 2, 3);
            String name = ", WAIT " + wait;
            script.due("11: not HELD, as withdrawn on the DAY ahead" + name, -7, x -> x.withdraw(2, 5));
            script.due("11: HELD, as withdrawn on the DAY itself" + name, -4, x -> x.withdraw(2, 4));
            script.due("11: HELD, and withdrawn since" + name, -4, x -> x.withdraw(2, 3));
            script.due("11: HELD" + name, 10, x -> x.withdraw(2, 2));
            check.dueRow("24: what STANDS of these" + name, Check.has(script.play(), 2, 0, day + wait, day), 2);
            check.dueRow("24: as known a DAY before" + name, Check.has(script.play(), 0, 0, day + wait, day - 1),
                2, 3, 4);
            script.due("10: not HELD, but too late" + name, -3, x -> x.object(2, 5, true));
            script.due("10: HELD, though withdrawn" + name, -7, x -> x.object(2, 4, true));
        }
    }

    private static void heldThroughEach() {
        for (int with = 0; with < 4; with++) {
            boolean near = (with & 1) != 0;
            boolean far = (with & 2) != 0;
            Script script = script(4, 1, 1, 2).join(0, 0, 0).clock(10).reserve(1, 0, 0, 0, 5).clock(20)
                .follow(2, 1, 0, 0, near).reserve(3, 1, 0, 0, 6).clock(30).follow(4, 2, 1, 0, far)
                .reserve(5, 2, 0, 0, 7);
            int[] due = near && far ? new int[] {1, 3, 5} : far ? new int[] {3, 5} : new int[] {5};
            check.dueRow("24: " + near + " and " + far, Check.has(script.play(), 2, 0, 32, 30), due);
            check.dueRow("24: in the middle, " + near, Check.has(script.play(), 1, 0, 31, 30),
                near ? new int[] {1, 3} : new int[] {3});
        }
        Script early = script(4, 1, 1, 2).join(0, 0, 0).clock(10).reserve(1, 0, 0, 0, 5).clock(11)
            .follow(2, 1, 0, 0, true).follow(3, 2, 1, 0, true);
        check.dueRow("24: it STOOD ahead of both", Check.has(early.play(), 2, 0, 13, 11), 1);
        early.due("24: the one in the middle IS A PARTY on no DAY", NONE, x -> x.member(1, 0, 13, 11));
        Script late = script(4, 1, 1, 2).join(0, 0, 0).clock(10).reserve(1, 0, 0, 0, 5)
            .follow(2, 1, 0, 0, true).clock(11).follow(3, 2, 1, 0, true);
        check.dueRow("24: it STOOD ahead of the second alone", Check.has(late.play(), 2, 0, 13, 11));
    }

    private static void heldOnDayZero() {
        Script script = script(3, 1, 1, 0).join(0, 0, 0).reserve(1, 0, 0, 0, 5).follow(2, 1, 0, 0, true);
        script.due("24: there is no DAY ahead of DAY 0", NONE, x -> x.has(1, 0, 0, 0, 0));
        script.due("11: nor is it HELD", -7, x -> x.withdraw(1, 1));
        script.due("10: nor is it HELD, to object", 3, x -> x.object(1, 1, true));
        Script one = script(3, 1, 1, 0).join(0, 0, 0).reserve(1, 0, 0, 0, 5).clock(1).follow(2, 1, 0, 0, true);
        one.due("24: DAY 0 is ahead of DAY 1", 1, x -> x.has(1, 0, 1, 1, 0));
        Script wait = script(3, 1, 1, 1).join(0, 0, 0).change(1, 0, 0, 0, 5).reserve(2, 0, 0, 0, 5)
            .follow(3, 1, 0, 0, true);
        check.dueRow("24: what was LODGED on DAY 0, WAIT 1", Check.has(wait.play(), 1, 0, 1, 0), 1);
    }

    private static void neededParties() {
        for (int needed = 1; needed <= 10; needed++) {
            Script script = script(13, 1, needed, 0);
            for (int joined = 0; joined <= 12; joined++) {
                boolean both = joined >= 2;
                boolean enough = joined >= needed;
                String name = joined + " of " + needed + " NEEDED";
                script.due("17: " + name, both && enough ? 1 : 0, x -> x.between(0, 1, 0, 0, 0, 0));
                script.due("18: " + name, both && enough ? 1 : 0, x -> x.words(0, 1, 0, 0, 0, 0));
                script.due("19: " + name, both && enough ? 0 : NONE, x -> x.why(0, 1, 0, 0, 0, 0, 0));
                script.due("17: one of both not, " + name, 0, x -> x.between(0, 12, 0, 0, 0, 0));
                script.due("23: " + name, enough ? 0 : NONE, x -> x.since(0));
                int due = joined;
                script.due("22: " + name, due, x -> x.members(0, 0, 0));
                if (joined < 12) {
                    script.join(joined, joined, 0);
                }
            }
        }
    }

    private static void whyTheNeeded() {
        for (int needed = 1; needed <= 10; needed++) {
            Script script = script(30, 1, needed, 0);
            for (int paper = 0; paper < 30; paper++) {
                script.join(paper, 29 - paper, 0);
            }
            TreatyHouse x = script.play();
            int[] high = new int[needed + 2];
            high[0] = 0;
            high[1] = 1;
            int[] low = new int[Math.max(needed, 2)];
            for (int i = 0; i < needed; i++) {
                high[2 + i] = 30 - needed + i;
            }
            for (int i = 0; i < low.length; i++) {
                low[i] = 30 - low.length + i;
            }
            check.dueRow("19: both beside the NEEDED " + needed, Check.why(x, 28, 29, 0, 0, 0, 0), high);
            check.dueRow("19: both of the NEEDED " + needed, Check.why(x, 0, 1, 0, 0, 0, 0), low);
            int[] next = Check.why(x, needed - 1, needed, 0, 0, 0, 0);
            check.due("19: the last one NEEDED, and the next", next.length, needed + 1);
            check.due("19: the next one's MEMBERSHIP", next[0], 29 - needed);
        }
    }

    private static void notBoundFirst() {
        Script script = script(4, 1, 3, 0).join(0, 0, 0).join(1, 1, 0).reserve(2, 0, 0, 0, 5).object(3, 1, 2, false);
        dueBetween("a strong OBJECT, and too few", script, of(0, 1, 0, 0, 0), 0, 0);
        script.join(4, 3, 0);
        dueBetween("a strong OBJECT, and enough", script, of(0, 1, 0, 0, 0), 0, 0, 0, 1, 2, 3);
        dueBetween("one IS no PARTY", script, of(0, 2, 0, 0, 0), 0, 0);
        dueBetween("the third", script, of(0, 3, 0, 0, 0), 2, 5, 0, 1, 2, 4);
    }

    private static void strongObjects() {
        Script script = script(3, 2, 1, 1).join(0, 0, 0).join(1, 1, 0).join(2, 2, 0).clock(10)
            .reserve(3, 0, 0, 1, 0).clock(12).object(4, 1, 3, false).clock(20).withdraw(5, 1, 4).clock(21);
        dueBetween("ahead of the OBJECT", script, of(0, 1, 1, 11, 20), 3, 0, 0, 1, 3);
        dueBetween("on the OBJECT's DAY", script, of(0, 1, 1, 12, 20), 0, 0, 0, 1, 3, 4);
        dueBetween("of another ARTICLE", script, of(0, 1, 0, 12, 20), 0, 0, 0, 1, 3, 4);
        dueBetween("of another PARTY", script, of(0, 2, 1, 12, 20), 3, 0, 0, 2, 3);
        dueBetween("ahead of its WITHDRAW", script, of(0, 1, 0, 20, 20), 0, 0, 0, 1, 3, 4);
        dueBetween("on its WITHDRAW's DAY", script, of(0, 1, 0, 21, 20), 1, 1, 0, 1);
        dueBetween("the WITHDRAW not known", script, of(0, 1, 0, 21, 19), 0, 0, 0, 1, 3, 4);
        dueBetween("the OBJECT not known", script, of(0, 1, 1, 21, 11), 3, 0, 0, 1, 3);
        Script soon = script(2, 1, 1, 5).join(0, 0, 0).join(1, 1, 0).clock(10).reserve(2, 0, 0, 0, 5)
            .object(3, 1, 2, false).clock(20).withdraw(4, 0, 2);
        dueBetween("the RESERVE ahead of its EFFECT", soon, of(0, 1, 0, 14, 20), 1, 1, 0, 1);
        dueBetween("the RESERVE on its EFFECT", soon, of(0, 1, 0, 15, 20), 0, 0, 0, 1, 2, 3);
        dueBetween("ahead of the RESERVE's WITHDRAW", soon, of(0, 1, 0, 24, 20), 0, 0, 0, 1, 2, 3);
        dueBetween("on the RESERVE's WITHDRAW", soon, of(0, 1, 0, 25, 20), 1, 1, 0, 1);
        Script other = new Script(check).parties(2).agreement(0, 1, 1, 0, 9).agreement(1, 1, 1, 0, 9)
            .join(0, 0, 0).join(1, 1, 0).join(2, 0, 1).join(3, 1, 1).reserve(4, 0, 1, 0, 5).object(5, 1, 4, false);
        dueBetween("about another AGREEMENT", other, of(0, 1, 0, 0, 0), 1, 1, 0, 1);
        dueBetween("about that AGREEMENT", other, new int[] {0, 1, 1, 0, 0, 0}, 0, 0, 2, 3, 4, 5);
    }

    /** One HAS the RESERVE of a PARTY that it follows, and an OBJECT to it OF its own: that is of one, not of both. */
    private static void strongObjectsOfOne() {
        Script script = script(3, 1, 1, 2).join(0, 0, 0).join(1, 1, 0).clock(10).reserve(2, 0, 0, 0, 5)
            .follow(3, 2, 0, 0, true).object(4, 2, 2, false);
        dueBetween("an OBJECT to a RESERVE that nobody HAS", script, of(1, 2, 0, 12, 10), 1, 1, 0, 1, 3);
        Script away = script(3, 1, 1, 0).join(0, 0, 0).join(1, 1, 0).reserve(2, 0, 0, 0, 5).clock(1)
            .object(3, 1, 2, false).withdraw(4, 1, 1).join(5, 1, 0);
        dueBetween("an OBJECT OF a MEMBERSHIP before", away, of(0, 1, 0, 1, 1), 2, 5, 0, 2, 5);
        Script back = script(3, 1, 1, 0).join(0, 0, 0).join(1, 1, 0).reserve(2, 0, 0, 0, 5).object(3, 1, 2, false)
            .clock(1).withdraw(4, 0, 0).join(5, 0, 0);
        dueBetween("a RESERVE OF a MEMBERSHIP before", back, of(0, 1, 0, 1, 1), 1, 1, 1, 5);
        dueBetween("the DAY ahead", back, of(0, 1, 0, 0, 1), 0, 0, 0, 1, 2, 3);
        Script behind = script(3, 1, 1, 0).join(0, 0, 0).join(1, 1, 0).reserve(2, 0, 0, 0, 5).object(3, 1, 2, false)
            .clock(1).follow(4, 2, 1, 0, true);
        dueBetween("the OBJECT went to the one behind", behind, of(0, 2, 0, 1, 1), 0, 0, 0, 1, 2, 3, 4);
        Script without = script(3, 1, 1, 0).join(0, 0, 0).join(1, 1, 0).reserve(2, 0, 0, 0, 5).object(3, 1, 2, false)
            .clock(1).follow(4, 2, 1, 0, false);
        dueBetween("the OBJECT did not", without, of(0, 2, 0, 1, 1), 2, 5, 0, 1, 2, 4);
    }

    private static void whyStrong() {
        Script script = script(3, 2, 3, 0).join(0, 2, 0).join(1, 1, 0).join(2, 0, 0).reserve(3, 0, 0, 0, 5)
            .reserve(4, 1, 0, 1, 6).reserve(5, 1, 0, 0, 7).object(6, 1, 3, true).object(7, 0, 5, false)
            .object(8, 0, 4, false).withdraw(9, 1, 6).object(10, 1, 3, false);
        dueBetween("the OBJECT with the least number", script, of(0, 1, 0, 0, 0), 0, 0, 1, 2, 5, 7);
        dueBetween("whatever the ARTICLE", script, of(0, 1, 1, 0, 0), 0, 0, 1, 2, 5, 7);
        script.withdraw(11, 0, 7);
        dueBetween("the next one", script, of(0, 1, 0, 0, 0), 0, 0, 1, 2, 4, 8);
        script.withdraw(12, 0, 8);
        dueBetween("the last one", script, of(0, 1, 1, 0, 0), 0, 0, 1, 2, 3, 10);
        script.withdraw(13, 1, 10);
        dueBetween("none, and the NEEDED again", script, of(0, 1, 1, 0, 0), 2, 6, 0, 1, 2, 4);
    }

    private static void theGreatestReserve() {
        Script script = script(2, 2, 1, 2).join(0, 0, 0).join(1, 1, 0).clock(10).reserve(2, 0, 0, 0, 50).clock(11)
            .reserve(3, 1, 0, 0, 51).clock(12).reserve(4, 0, 0, 0, 52).clock(13).reserve(5, 1, 0, 1, 53)
            .clock(20).withdraw(6, 0, 4).clock(21).withdraw(7, 0, 2).clock(22).withdraw(8, 1, 3);
        int[][] due = {{11, 1}, {12, 50}, {13, 51}, {14, 52}, {15, 52}, {21, 52}, {22, 51}, {23, 51}, {24, 1}};
        for (int[] row : due) {
            script.due("18: ARTICLE 0 on " + row[0], row[1], x -> x.words(0, 1, 0, 0, row[0], 22));
        }
        script.due("18: ARTICLE 1 on 14", 2, x -> x.words(0, 1, 0, 1, 14, 22));
        script.due("18: ARTICLE 1 on 15", 53, x -> x.words(0, 1, 0, 1, 15, 22));
        dueBetween("r is of the other", script, of(0, 1, 0, 22, 22), 2, 51, 0, 1, 3);
        Script same = script(2, 1, 1, 0).join(0, 0, 0).join(1, 1, 0).reserve(2, 0, 0, 0, 50).reserve(3, 0, 0, 0, 0);
        dueBetween("the greatest has 0", same, of(0, 1, 0, 0, 0), 3, 0, 0, 1, 3);
        same.reserve(4, 1, 0, 0, 1);
        dueBetween("the greatest has 1", same, of(0, 1, 0, 0, 0), 2, 1, 0, 1, 4);
    }

    private static void wordsOfReserve() {
        int[] words = {1, 2, 999999, 1000000};
        for (int number : words) {
            Script script = script(2, 1, 1, 0).join(0, 0, 0).join(1, 1, 0).reserve(2, 0, 0, 0, number);
            dueBetween("words " + number, script, of(0, 1, 0, 0, 0), 2, number, 0, 1, 2);
            script.object(3, 1, 2, true);
            dueBetween("words " + number + ", and mild", script, of(0, 1, 0, 0, 0), 3, 0, 0, 1, 2, 3);
        }
        Script none = script(2, 1, 1, 0).join(0, 0, 0).join(1, 1, 0).reserve(2, 0, 0, 0, 0);
        dueBetween("words 0", none, of(0, 1, 0, 0, 0), 3, 0, 0, 1, 2);
        none.object(3, 1, 2, true);
        dueBetween("words 0, and mild", none, of(0, 1, 0, 0, 0), 3, 0, 0, 1, 2);
    }

    private static void whyMild() {
        Script script = script(4, 1, 1, 1).join(0, 0, 0).join(1, 1, 0).join(2, 2, 0).clock(5).reserve(3, 0, 0, 0, 9)
            .object(4, 2, 3, true).object(5, 1, 3, true).clock(9).follow(6, 3, 1, 0, true).object(7, 3, 3, true);
        dueBetween("the OBJECT of the other one", script, of(0, 1, 0, 6, 9), 3, 0, 0, 1, 3, 5);
        dueBetween("the DAY ahead of the RESERVE", script, of(0, 1, 0, 5, 9), 1, 1, 0, 1);
        dueBetween("the least of two that it HAS", script, of(0, 3, 0, 10, 9), 3, 0, 0, 1, 3, 5, 6);
        dueBetween("neither of both HAS r", script, of(1, 2, 0, 6, 9), 1, 1, 0, 1, 2);
        script.withdraw(8, 3, 5);
        dueBetween("the other of two", script, of(0, 3, 0, 10, 9), 3, 0, 0, 1, 3, 6, 7);
        script.withdraw(9, 3, 7);
        dueBetween("none of two", script, of(0, 3, 0, 10, 9), 2, 9, 0, 1, 3, 6);
    }

    private static void changes() {
        Script script = script(3, 2, 1, 2).join(0, 0, 0).join(1, 1, 0).join(2, 2, 0).clock(10).change(3, 2, 0, 0, 70)
            .consent(4, 0, 3).clock(11).consent(5, 1, 3).clock(20).change(6, 0, 0, 0, 71).consent(7, 1, 6)
            .consent(8, 0, 6).clock(30).withdraw(9, 0, 8).clock(40).withdraw(10, 1, 5);
        dueBetween("one of both alone", script, of(0, 1, 0, 12, 40), 1, 1, 0, 1);
        dueBetween("each of both", script, of(0, 1, 0, 13, 40), 4, 70, 0, 1, 2, 3, 4, 5);
        dueBetween("the greater, the DAY ahead", script, of(0, 1, 0, 21, 40), 4, 70, 0, 1, 2, 3, 4, 5);
        dueBetween("the greater", script, of(0, 1, 0, 22, 40), 4, 71, 0, 1, 6, 7, 8);
        dueBetween("withdrawn, the DAY ahead", script, of(0, 1, 0, 31, 40), 4, 71, 0, 1, 6, 7, 8);
        dueBetween("withdrawn", script, of(0, 1, 0, 32, 40), 4, 70, 0, 1, 2, 3, 4, 5);
        dueBetween("the other, the DAY ahead", script, of(0, 1, 0, 41, 40), 4, 70, 0, 1, 2, 3, 4, 5);
        dueBetween("the other", script, of(0, 1, 0, 42, 40), 1, 1, 0, 1);
        dueBetween("of the other ARTICLE", script, of(0, 1, 1, 22, 40), 1, 2, 0, 1);
        dueBetween("of the one that proposed", script, of(0, 2, 0, 22, 40), 1, 1, 0, 2);
        dueBetween("the second CONSENT known", script, of(0, 1, 0, 42, 11), 4, 70, 0, 1, 2, 3, 4, 5);
        dueBetween("the second CONSENT not known", script, of(0, 1, 0, 42, 10), 1, 1, 0, 1);
        script.reserve(11, 0, 0, 0, 5);
        dueBetween("a RESERVE comes first", script, of(0, 1, 0, 42, 40), 2, 5, 0, 1, 11);
        Script last = script(2, 20, 1, 0).join(0, 0, 0).join(1, 1, 0).change(2, 0, 0, 19, 1000000).consent(3, 0, 2)
            .consent(4, 1, 2);
        dueBetween("of the last ARTICLE", last, of(0, 1, 19, 0, 0), 4, 1000000, 0, 1, 2, 3, 4);
        dueBetween("of the one ahead", last, of(0, 1, 18, 0, 0), 1, 19, 0, 1);
    }

    private static void whyChanged() {
        Script script = script(4, 1, 1, 0).join(0, 0, 0).join(1, 1, 0).change(2, 0, 0, 0, 70).consent(3, 1, 2)
            .consent(4, 0, 2).clock(1).follow(5, 2, 1, 0, true).consent(6, 2, 2).follow(7, 3, 0, 0, true)
            .consent(8, 3, 2);
        dueBetween("of each the CONSENT with the least number", script, of(2, 3, 0, 1, 1), 4, 70, 0, 1, 2, 3, 4, 5, 7);
        script.withdraw(9, 2, 3);
        dueBetween("of one the next", script, of(2, 3, 0, 1, 1), 4, 70, 0, 1, 2, 4, 5, 6, 7);
        script.withdraw(10, 3, 4);
        dueBetween("of each the next", script, of(2, 3, 0, 1, 1), 4, 70, 0, 1, 2, 5, 6, 7, 8);
        script.withdraw(11, 3, 8);
        dueBetween("of one none", script, of(2, 3, 0, 1, 1), 1, 1, 0, 1, 5, 7);
    }

    /** WHY: of FOLLOWS what they name, of PAPERS what they are OF, and so on; but a WITHDRAW is never among them. */
    private static void whySources() {
        Script script = script(5, 1, 1, 0).join(0, 0, 0).join(1, 4, 0).clock(1).reserve(2, 0, 0, 0, 9).clock(2)
            .follow(3, 1, 0, 0, true).clock(3).follow(4, 2, 1, 0, true).clock(4).follow(5, 3, 2, 0, true);
        dueBetween("three FOLLOWS", script, of(3, 4, 0, 4, 4), 2, 9, 0, 1, 2, 3, 4, 5);
        dueBetween("two FOLLOWS", script, of(2, 4, 0, 3, 4), 2, 9, 0, 1, 2, 3, 4);
        dueBetween("one FOLLOW", script, of(1, 4, 0, 2, 4), 2, 9, 0, 1, 2, 3);
        dueBetween("no FOLLOW", script, of(0, 4, 0, 1, 4), 2, 9, 0, 1, 2);
        Script away = script(5, 1, 1, 0).join(0, 0, 0).clock(1).follow(1, 1, 0, 0, false).change(2, 1, 0, 0, 70)
            .withdraw(3, 1, 1).join(4, 2, 0).join(5, 3, 0).consent(6, 2, 2).consent(7, 3, 2);
        dueBetween("of a CHANGE its MEMBERSHIP, and what this names", away, of(2, 3, 0, 1, 1), 4, 70,
            0, 1, 2, 4, 5, 6, 7);
        Script needed = script(5, 1, 2, 0).join(0, 4, 0).join(1, 2, 0).join(2, 3, 0).clock(1).follow(3, 0, 4, 0, true)
            .join(4, 1, 0);
        dueBetween("of a NEEDED one what it names", needed, of(2, 3, 0, 1, 1), 1, 1, 0, 1, 2, 3, 4);
        dueBetween("the NEEDED are they themselves", needed, of(2, 3, 0, 0, 1), 1, 1, 1, 2);
    }

    private static void first() {
        Script script = script(2, 1, 1, 3);
        script.due("20: on DAY 0, never bound", 0, x -> x.first(0, 1, 0, 0));
        script.clock(10).join(0, 0, 0).join(1, 1, 0);
        script.due("20: LODGED", 0, x -> x.first(0, 1, 0, 0));
        script.fork().clock(12).due("20: the DAY ahead", 0, x -> x.first(0, 1, 0, 0));
        script.fork().clock(13).due("20: on the EFFECT", 13, x -> x.first(0, 1, 0, 0));
        script.fork().clock(14).due("20: the DAY behind", 13, x -> x.first(0, 1, 0, 0));
        script.fork().clock(73000).due("20: on the last DAY", 13, x -> x.first(0, 1, 0, 0));
        script.clock(20).reserve(2, 0, 0, 0, 1);
        script.fork().clock(22).due("20: the DAY ahead of the RESERVE", 13, x -> x.first(0, 1, 0, 0));
        script.fork().clock(23).due("20: the same WORDS, another ANSWER", 23, x -> x.first(0, 1, 0, 0));
        script.clock(30).reserve(3, 1, 0, 0, 1);
        script.fork().clock(33).due("20: the same WORDS and ANSWER, another RESERVE", 23, x -> x.first(0, 1, 0, 0));
        script.clock(40).reserve(4, 1, 0, 0, 2).clock(44);
        script.due("20: the same ANSWER, other WORDS", 43, x -> x.first(0, 1, 0, 0));
        script.due("20: the other way", 43, x -> x.first(1, 0, 0, 0));
        Script zero = script(2, 1, 1, 0).join(0, 0, 0).join(1, 1, 0);
        zero.due("20: bound on DAY 0", 0, x -> x.first(0, 1, 0, 0));
        zero.fork().clock(1).due("20: bound since DAY 0", 0, x -> x.first(0, 1, 0, 0));
        zero.fork().clock(1).withdraw(2, 0, 0).due("20: not since DAY 1", 1, x -> x.first(0, 1, 0, 0));
        zero.fork().clock(73000).withdraw(2, 0, 0).due("20: not since the last DAY", 73000, x -> x.first(0, 1, 0, 0));
        zero.fork().clock(73000).due("20: bound since DAY 0, to the last", 0, x -> x.first(0, 1, 0, 0));
    }

    /** First() and since(), beside what between(), words() and members() tell of each DAY. */
    private static void firstOnEachDay() {
        Script script = script(3, 1, 2, 2).join(0, 0, 0).clock(1).join(1, 1, 0).clock(5).reserve(2, 0, 0, 0, 7)
            .clock(6).withdraw(3, 0, 2).clock(9).object(4, 1, 2, false).clock(10).withdraw(5, 0, 0).join(6, 0, 0)
            .clock(13).follow(7, 2, 1, 0, true).clock(16).withdraw(8, 2, 7).clock(19).join(9, 1, 0);
        for (int now = 19; now <= 24; now++) {
            int today = now;
            TreatyHouse x = script.fork().clock(today).play();
            for (int q = 1; q <= 2; q++) {
                int first = today;
                while (first > 0 && x.between(0, q, 0, 0, first - 1, today) == x.between(0, q, 0, 0, today, today)
                    && x.words(0, q, 0, 0, first - 1, today) == x.words(0, q, 0, 0, today, today)) {
                    first--;
                }
                check.due("20: on " + today + ", with " + q, x.first(0, q, 0, 0), first);
            }
            int since = today;
            while (since > 0 && x.members(0, since - 1, today) >= 2) {
                since--;
            }
            check.due("23: on " + today, x.since(0), x.members(0, today, today) < 2 ? NONE : since);
        }
    }

    private static void since() {
        Script script = script(3, 1, 2, 3).clock(10).join(0, 0, 0);
        script.fork().clock(13).due("23: one of two", NONE, x -> x.since(0));
        script.clock(20).join(1, 1, 0);
        script.fork().clock(22).due("23: the DAY ahead", NONE, x -> x.since(0));
        script.fork().clock(23).due("23: on the EFFECT", 23, x -> x.since(0));
        script.fork().clock(24).due("23: the DAY behind", 23, x -> x.since(0));
        script.fork().clock(73000).due("23: on the last DAY", 23, x -> x.since(0));
        Script three = script.fork().clock(25).join(2, 2, 0).clock(40).withdraw(3, 0, 0).clock(43);
        three.due("23: two of three are enough", 23, x -> x.since(0));
        script.clock(30).withdraw(2, 1, 1);
        script.fork().clock(32).due("23: ahead of the WITHDRAW's EFFECT", 23, x -> x.since(0));
        script.fork().clock(33).due("23: on it", NONE, x -> x.since(0));
        script.clock(31).join(3, 1, 0);
        script.fork().clock(33).due("23: a DAY between", NONE, x -> x.since(0));
        script.fork().clock(34).due("23: again", 34, x -> x.since(0));
        Script gapless = script(3, 1, 2, 3).clock(10).join(0, 0, 0).join(1, 1, 0).clock(30).withdraw(2, 1, 1)
            .join(3, 1, 0).clock(33);
        gapless.due("23: no DAY between", 13, x -> x.since(0));
        Script followed = script(3, 1, 2, 3).clock(10).join(0, 0, 0).join(1, 1, 0).clock(30).follow(2, 2, 1, 0, false)
            .clock(33);
        followed.due("23: one behind another", 13, x -> x.since(0));
        script(3, 1, 1, 0).due("23: no PARTY on DAY 0", NONE, x -> x.since(0));
        script(3, 1, 1, 0).join(0, 0, 0).due("23: one on DAY 0", 0, x -> x.since(0));
    }

    /** As many FOLLOWS behind one another as there is room for, all LODGED on one DAY. */
    private static void longFollowing() {
        Script script = script(3, 1, 1, 1).join(0, 0, 0).join(1, 2, 0).reserve(2, 0, 0, 0, 9).clock(1);
        for (int paper = 3; paper < 400; paper++) {
            script.follow(paper, paper % 2, 1 - paper % 2, 0, true);
        }
        script.refused("14: one more", -8, x -> x.follow(0, 1, 0, true));
        script.due("21: the last of them", 399, x -> x.member(1, 0, 2, 1));
        script.due("22: it alone", 2, x -> x.members(0, 2, 1));
        script.due("24: through all of them", 2, x -> x.has(1, 0, 2, 1, 0));
        script.due("18: its RESERVE", 9, x -> x.words(1, 2, 0, 0, 2, 1));
        script.due("19: the first of WHY", 0, x -> x.why(1, 2, 0, 0, 2, 1, 0));
        script.due("19: the last of WHY", 399, x -> x.why(1, 2, 0, 0, 2, 1, 399));
        script.due("19: behind the last of 400", NONE, x -> x.why(1, 2, 0, 0, 2, 1, 400));
        script.due("18: the DAY ahead", 9, x -> x.words(0, 2, 0, 0, 1, 1));
        script.due("21: the DAY ahead", NONE, x -> x.member(1, 0, 1, 1));
        script.due("20: the last, on its first DAY", 2, x -> {
            x.clock(2);
            return x.first(1, 2, 0, 0);
        });
    }

    /** Whatever was asked before, each question is answered as if it were the first. */
    private static void nothingIsLeftOver() {
        Script script = new Script(check).parties(5).agreement(0, 2, 2, 1, 1000).agreement(1, 1, 1, 0, 1000)
            .join(0, 0, 0).join(1, 1, 0).join(2, 2, 0).join(3, 3, 1).join(4, 1, 1).clock(2).reserve(5, 0, 0, 0, 60)
            .object(6, 1, 5, true).object(7, 2, 5, false).change(8, 1, 0, 0, 70).consent(9, 1, 8).consent(10, 2, 8)
            .clock(4).follow(11, 4, 0, 0, true).clock(6).withdraw(12, 2, 2);
        List<Script.Call> questions = new ArrayList<>();
        int[][] cases = {{0, 1, 0, 0, 3, 4}, {0, 1, 0, 1, 3, 4}, {0, 2, 0, 0, 4, 6}, {1, 2, 0, 0, 3, 3},
            {1, 2, 0, 1, 6, 6}, {4, 1, 0, 0, 6, 6}, {4, 2, 0, 0, 6, 6}, {1, 2, 0, 0, 7, 6}, {1, 3, 1, 0, 6, 6},
            {0, 1, 0, 0, 0, 6}, {0, 5, 0, 0, 3, 4}};
        for (int[] c : cases) {
            questions.add(x -> x.between(c[0], c[1], c[2], c[3], c[4], c[5]));
            questions.add(x -> x.words(c[0], c[1], c[2], c[3], c[4], c[5]));
            for (int i = 0; i < 8; i++) {
                int at = i;
                questions.add(x -> x.why(c[0], c[1], c[2], c[3], c[4], c[5], at));
            }
            questions.add(x -> x.first(c[0], c[1], c[2], c[3]));
            questions.add(x -> x.member(c[0], c[2], c[4], c[5]));
            questions.add(x -> x.members(c[2], c[4], c[5]));
            questions.add(x -> x.has(c[1], c[2], c[4], c[5], 0));
            questions.add(x -> x.since(c[2]));
        }
        for (int before = 0; before < questions.size(); before++) {
            TreatyHouse asked = script.play();
            for (int i = 0; i < questions.size(); i++) {
                questions.get(before).on(asked);
                script.due("17 to 24: question " + i + " behind question " + before,
                    questions.get(i).on(asked), questions.get(i));
            }
        }
    }

    /** An object is used for at most 512 calls: the last of them is answered as the first. */
    private static void fiveHundredAndTwelve() {
        Script script = script(30, 1, 1, 0).join(0, 0, 0).join(1, 1, 0).notes(2, 399);
        while (script.length() < 509) {
            script.undo(399).then("note(5)", 399, x -> x.note(5));
        }
        script.then("count(2)", 400, x -> x.count(2)).then("count(3)", 0, x -> x.count(3));
        check.due("the last call is the 512th", script.length() + 1, 512);
        script.due("22: the 512th", 2, x -> x.members(0, 0, 0));
        script.due("15: the 512th", -8, x -> x.note(7));
        script.due("16: the 512th", 399, x -> x.undo());
        script.due("17: the 512th", 1, x -> x.between(0, 1, 0, 0, 0, 0));
        script.due("19: the 512th", 1, x -> x.why(0, 1, 0, 0, 0, 0, 1));
    }
}
