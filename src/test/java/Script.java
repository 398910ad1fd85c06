import java.util.ArrayList;
import java.util.List;

/**
 * A run of calls, each with the answer that is due, that is made anew on a fresh object whenever it is asked for: so a
 * look at the whole state takes as many objects as it needs, and none of them has more than its 512 calls.
 */
final class Script {
    /** One call; a boolean counts 1 or 0. */
    interface Call {
        long on(TreatyHouse house);
    }

    private record Step(String text, long want, Call call) {
    }

    private record Look(String text, Call call) {
    }

    private static final int MOST_CALLS = 512;
    /** A call that is refused may be one that first does another, to show what that has done. */
    private static final int MOST_REFUSED = 2;

    private final Check check;
    private final List<Step> steps = new ArrayList<>();
    private List<Look> looks;

    Script(Check check) {
        this.check = check;
    }

    /** The same run so far; what comes to one of both from here on does not come to the other. */
    Script fork() {
        Script other = new Script(check);
        other.steps.addAll(steps);
        return other;
    }

    static long of(boolean answer) {
        return answer ? 1L : 0L;
    }

    Script then(String text, long want, Call call) {
        steps.add(new Step(text, want, call));
        looks = null;
        return this;
    }

    Script parties(int n) {
        for (int p = 0; p < n; p++) {
            then("party()", p, x -> x.party());
        }
        return this;
    }

    Script agreement(int want, int articles, int needed, int wait, int span) {
        return then("agreement", want, x -> x.agreement(articles, needed, wait, span));
    }

    Script clock(int day) {
        return then("clock(" + day + ")", 1, x -> of(x.clock(day)));
    }

    Script sign(int want, int p, int g) {
        return then("sign(" + p + ", " + g + ")", want, x -> x.sign(p, g));
    }

    Script ratify(int want, int p, int g) {
        return then("ratify(" + p + ", " + g + ")", want, x -> x.ratify(p, g));
    }

    Script join(int want, int p, int g) {
        return then("join(" + p + ", " + g + ")", want, x -> x.join(p, g));
    }

    Script reserve(int want, int p, int g, int a, int words) {
        return then("reserve(" + p + ", " + g + ")", want, x -> x.reserve(p, g, a, words));
    }

    Script object(int want, int q, int r, boolean mild) {
        return then("object(" + q + ", " + r + ")", want, x -> x.object(q, r, mild));
    }

    Script withdraw(int want, int p, int paper) {
        return then("withdraw(" + p + ", " + paper + ")", want, x -> x.withdraw(p, paper));
    }

    Script change(int want, int p, int g, int a, int words) {
        return then("change(" + p + ", " + g + ")", want, x -> x.change(p, g, a, words));
    }

    Script consent(int want, int p, int c) {
        return then("consent(" + p + ", " + c + ")", want, x -> x.consent(p, c));
    }

    Script follow(int want, int p, int q, int g, boolean papers) {
        return then("follow(" + p + ", " + q + ", " + g + ")", want, x -> x.follow(p, q, g, papers));
    }

    Script undo(int want) {
        return then("undo()", want, x -> x.undo());
    }

    /** NOTES from the first number on up to the last. */
    Script notes(int first, int last) {
        for (int i = first; i <= last; i++) {
            int number = i;
            then("note(" + number + ")", number, x -> x.note(number));
        }
        return this;
    }

    Script annex(int want, int g, int width, int n) {
        return then("annex(" + g + ", " + width + ", " + n + ")", want, x -> x.annex(g, width, n));
    }

    Script tear(int g, int annex) {
        return then("tear(" + g + ", " + annex + ")", 1, x -> of(x.tear(g, annex)));
    }

    Script write(int g, int annex, int i, long v) {
        return then("write(" + g + ", " + annex + ", " + i + ")", 0, x -> x.write(g, annex, i, v));
    }

    int length() {
        return steps.size();
    }

    /** A new object with all calls of the run behind it. */
    TreatyHouse play() {
        TreatyHouse house = new TreatyHouse();
        for (Step step : steps) {
            check.due("on the way: " + step.text, step.call.on(house), step.want);
        }
        return house;
    }

    /** The answer of one call behind the run. */
    void due(String text, long want, Call call) {
        check.due(text, call.on(play()), want);
    }

    /** The answer of one call behind the run, and that all that can be seen is then as if it had not been made. */
    void refused(String text, long want, Call call) {
        if (looks == null) {
            looks = looks(play());
        }
        int room = MOST_CALLS - steps.size() - MOST_REFUSED;
        check.due(text + ": there is room for a look", room > 0, true);
        check.due(text, call.on(play()), want);
        for (int from = 0; from < looks.size() && room > 0; from += room) {
            dueAlike(text, call, looks.subList(from, Math.min(from + room, looks.size())), room);
        }
        dueNextNumbers(text, call, room);
    }

    private List<Look> looks(TreatyHouse house) {
        List<Look> row = new ArrayList<>();
        for (int what = 0; what < 110; what++) {
            int number = what;
            row.add(new Look("count(" + number + ")", x -> x.count(number)));
        }
        int papers = house.count(2);
        for (int number = 0; number <= papers; number++) {
            int paper = number;
            for (int what = 0; what < 10; what++) {
                int detail = what;
                row.add(new Look("paper(" + paper + ", " + detail + ")", x -> x.paper(paper, detail)));
            }
            row.add(new Look("noted(" + paper + ")", x -> x.noted(paper)));
        }
        int agreements = house.count(1);
        for (int g = 0; g < agreements; g++) {
            lookAtAnnexes(row, house, g);
            lookAtParties(row, house, g);
        }
        return row;
    }

    private static void lookAtAnnexes(List<Look> row, TreatyHouse house, int g) {
        int annexes = house.count(10 * (g + 1) + 4);
        for (int number = 0; number < annexes; number++) {
            int annex = number;
            int size = house.size(g, annex);
            row.add(new Look("size(" + g + ", " + annex + ")", x -> x.size(g, annex)));
            for (int i = 0; i < size; i++) {
                int at = i;
                row.add(new Look("read(" + g + ", " + annex + ", " + at + ")", x -> x.read(g, annex, at)));
            }
        }
    }

    private static void lookAtParties(List<Look> row, TreatyHouse house, int g) {
        int now = house.count(3);
        int later = Math.min(now + house.count(10 * (g + 1) + 2), 73000);
        row.add(new Look("since(" + g + ")", x -> x.since(g)));
        row.add(new Look("members(" + g + ")", x -> x.members(g, later, now)));
        int parties = Math.min(house.count(0), 4);
        for (int p = 0; p < parties; p++) {
            int one = p;
            row.add(new Look("member(" + one + ", " + g + ")", x -> x.member(one, g, later, now)));
            row.add(new Look("has(" + one + ", " + g + ")", x -> x.has(one, g, later, now, 0)));
            for (int q = 0; q < one; q++) {
                int other = q;
                String both = "(" + one + ", " + other + ", " + g + ")";
                row.add(new Look("first" + both, x -> x.first(one, other, g, 0)));
                row.add(new Look("between" + both, x -> x.between(one, other, g, 0, later, now)));
                row.add(new Look("words" + both, x -> x.words(one, other, g, 0, later, now)));
                row.add(new Look("why" + both, x -> x.why(one, other, g, 0, later, now, 2)));
            }
        }
    }

    /** The AGREEMENT's WORDS show when a PAPER about it is LODGED only between two that are PARTIES. */
    private static void lookAtWords(List<Look> row, TreatyHouse house) {
        int one = house.count(0) - 1;
        int now = house.count(3);
        int agreements = Math.min(house.count(1), 2);
        for (int g = 0; one > 0 && g < agreements; g++) {
            int about = g;
            int articles = house.count(10 * (g + 1));
            row.add(new Look("join(" + one + ", " + g + ")", x -> x.join(one, about)));
            row.add(new Look("join(" + (one - 1) + ", " + g + ")", x -> x.join(one - 1, about)));
            for (int a = 0; a < articles; a++) {
                int article = a;
                row.add(new Look("words of ARTICLE " + a + " of " + g,
                    x -> x.words(one, one - 1, about, article, Math.min(now + 1000, 73000), now)));
            }
        }
    }

    /** An ANNEX's WIDTH shows in how a number is cut. */
    private static void lookAtWidths(List<Look> row, TreatyHouse house) {
        int agreements = house.count(1);
        for (int g = 0; g < agreements; g++) {
            int about = g;
            int annexes = house.count(10 * (g + 1) + 4);
            for (int number = 0; number < annexes; number++) {
                int annex = number;
                String name = "(" + g + ", " + annex + ", 0)";
                row.add(new Look("write" + name, x -> x.write(about, annex, 0, 0x7172737475767778L)));
                row.add(new Look("read" + name, x -> x.read(about, annex, 0)));
            }
        }
    }

    /** What can only be seen by changing it: the next numbers, what undo() takes back, WIDTHS, and WORDS of ARTICLES. */
    private void dueNextNumbers(String text, Call call, int room) {
        TreatyHouse house = play();
        List<Look> row = new ArrayList<>();
        int agreements = house.count(1);
        for (int g = 0; g < agreements; g++) {
            int agreement = g;
            row.add(new Look("annex(" + g + ", 0, 0)", x -> x.annex(agreement, 0, 0)));
            row.add(new Look("article(" + g + ", 0, 17)", x -> x.article(agreement, 0, 17)));
            row.add(new Look("article(" + g + ", 1, 18)", x -> x.article(agreement, 1, 18)));
        }
        row.add(new Look("undo()", x -> x.undo()));
        row.add(new Look("undo()", x -> x.undo()));
        row.add(new Look("note(19)", x -> x.note(19)));
        row.add(new Look("party()", x -> x.party()));
        row.add(new Look("agreement(1, 1, 0, 0)", x -> x.agreement(1, 1, 0, 0)));
        row.add(new Look("clock(73000)", x -> of(x.clock(73000))));
        dueAlike(text, call, row, room);
        List<Look> words = new ArrayList<>();
        lookAtWords(words, house);
        dueAlike(text, call, words, room);
        List<Look> widths = new ArrayList<>();
        lookAtWidths(widths, house);
        dueAlike(text, call, widths, room);
    }

    private void dueAlike(String text, Call call, List<Look> row, int room) {
        TreatyHouse untouched = play();
        TreatyHouse asked = play();
        call.on(asked);
        for (int i = 0; i < Math.min(row.size(), room); i++) {
            Look look = row.get(i);
            check.due(text + ", and then " + look.text, look.call.on(asked), look.call.on(untouched));
        }
    }
}
