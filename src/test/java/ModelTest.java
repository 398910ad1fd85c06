import java.util.ArrayList;
import java.util.Arrays;
import java.util.List;
import java.util.Random;
import java.util.TreeSet;

/**
 * Promises 1 to 33 at once: runs of up to 512 calls, chosen by a seed, on a TreatyHouse and on a model that follows
 * the document's terms word by word, DAY by DAY and without any care for speed.
 */
public final class ModelTest {
    private static final int RUNS = 3000;
    private static final Check check = new Check();

    public static void main(String[] args) {
        for (int run = 0; run < RUNS && !check.hasWrong(); run++) {
            new Run(run).play();
        }
        check.end();
    }

    private static final class Paper {
        int number;
        int kind;
        int party = -1;
        int g = -1;
        int lodged;
        int effect;
        Paper names;
        Paper of;
        int article = -1;
        int words = -1;
        boolean flag;
        long value;

        boolean isMembership() {
            return kind == 1 || kind == 2 || kind == 8;
        }
    }

    private static final class Annex {
        int width;
        int size;
        long[] numbers;
        boolean missing;
    }

    private static final class Model {
        int parties;
        int clock;
        final List<int[]> terms = new ArrayList<>();
        final List<int[]> articles = new ArrayList<>();
        final List<List<Annex>> annexes = new ArrayList<>();
        final List<Paper> papers = new ArrayList<>();

        boolean isParty(int p) {
            return 0 <= p && p < parties;
        }

        boolean isAgreement(int g) {
            return 0 <= g && g < terms.size();
        }

        boolean isArticle(int g, int a) {
            return isAgreement(g) && 0 <= a && a < articles.get(g).length;
        }

        static boolean isDay(int d) {
            return 0 <= d && d <= 73000;
        }

        int needed(int g) {
            return terms.get(g)[1];
        }

        // Terms 2

        List<Paper> namersOf(Paper x, int k, int... kinds) {
            List<Paper> found = new ArrayList<>();
            for (Paper y : papers) {
                for (int kind : kinds) {
                    if (y.kind == kind && y.names == x && y.lodged <= k) {
                        found.add(y);
                    }
                }
            }
            return found;
        }

        Paper belongs(int p, int g) {
            for (Paper x : papers) {
                if (x.isMembership() && x.party == p && x.g == g && namersOf(x, 99999, 5, 8).isEmpty()) {
                    return x;
                }
            }
            return null;
        }

        boolean stands(Paper x, int d, int k) {
            if (x.lodged > k || x.effect > d) {
                return false;
            }
            for (Paper y : namersOf(x, k, 5, 8)) {
                if (y.effect <= d) {
                    return false;
                }
            }
            return true;
        }

        boolean holds(Paper m, Paper x, int k) {
            if (x.of == m) {
                return true;
            }
            return m.kind == 8 && m.flag && stands(x, m.effect - 1, k) && holds(m.names, x, k);
        }

        Paper member(int p, int g, int d, int k) {
            for (Paper x : papers) {
                if (x.isMembership() && x.party == p && x.g == g && stands(x, d, k)) {
                    return x;
                }
            }
            return null;
        }

        List<Integer> members(int g, int d, int k) {
            List<Integer> found = new ArrayList<>();
            for (int p = 0; p < parties; p++) {
                if (member(p, g, d, k) != null) {
                    found.add(p);
                }
            }
            return found;
        }

        List<Paper> has(int p, int g, int d, int k) {
            List<Paper> found = new ArrayList<>();
            Paper m = member(p, g, d, k);
            if (m != null) {
                for (Paper x : papers) {
                    if (x.of != null && x.g == g && stands(x, d, k) && holds(m, x, k)) {
                        found.add(x);
                    }
                }
            }
            return found;
        }

        // Terms 3

        /** ANSWER, WORDS, and then WHY. */
        int[] between(int p, int q, int g, int a, int d, int k) {
            List<Integer> members = members(g, d, k);
            if (!members.contains(p) || !members.contains(q) || members.size() < needed(g)) {
                return new int[] {0, 0};
            }
            List<Paper> ofP = has(p, g, d, k);
            List<Paper> ofQ = has(q, g, d, k);
            TreeSet<Integer> why = new TreeSet<>();
            why.add(member(p, g, d, k).number);
            why.add(member(q, g, d, k).number);
            Paper strong = least(objects(ofP, ofQ, false), objects(ofQ, ofP, false));
            if (strong != null) {
                why.add(strong.number);
                why.add(strong.names.number);
                return told(0, 0, why);
            }
            for (int i = 0; i < needed(g); i++) {
                why.add(member(members.get(i), g, d, k).number);
            }
            Paper r = null;
            for (Paper x : papers) {
                if (x.kind == 3 && x.article == a && (ofP.contains(x) || ofQ.contains(x))) {
                    r = x;
                }
            }
            if (r != null) {
                return reserved(r, ofP, ofQ, why);
            }
            return unreserved(g, a, k, ofP, ofQ, why);
        }

        List<Paper> objects(List<Paper> theirs, List<Paper> ofReserver, boolean mild) {
            List<Paper> found = new ArrayList<>();
            for (Paper x : theirs) {
                if (x.kind == 4 && x.flag == mild && ofReserver.contains(x.names)) {
                    found.add(x);
                }
            }
            return found;
        }

        static Paper least(List<Paper> some, List<Paper> others) {
            Paper least = null;
            for (List<Paper> row : List.of(some, others)) {
                for (Paper x : row) {
                    least = least == null || x.number < least.number ? x : least;
                }
            }
            return least;
        }

        int[] reserved(Paper r, List<Paper> ofP, List<Paper> ofQ, TreeSet<Integer> why) {
            why.add(r.number);
            if (r.words == 0) {
                return told(3, 0, why);
            }
            List<Paper> mild = new ArrayList<>();
            for (Paper x : ofP.contains(r) ? ofQ : ofP) {
                if (x.kind == 4 && x.flag && x.names == r) {
                    mild.add(x);
                }
            }
            if (mild.isEmpty()) {
                return told(2, r.words, why);
            }
            why.add(mild.get(0).number);
            return told(3, 0, why);
        }

        int[] unreserved(int g, int a, int k, List<Paper> ofP, List<Paper> ofQ, TreeSet<Integer> why) {
            int words = articles.get(g)[a];
            Paper[] found = null;
            for (Paper c : papers) {
                if (c.kind == 6 && c.g == g && c.article == a && c.lodged <= k) {
                    Paper one = consentTo(c, ofP);
                    Paper other = consentTo(c, ofQ);
                    found = one != null && other != null ? new Paper[] {c, one, other} : found;
                }
            }
            if (found == null) {
                return told(1, words, why);
            }
            for (Paper x : found) {
                why.add(x.number);
            }
            return told(4, found[0].words, why);
        }

        static Paper consentTo(Paper c, List<Paper> theirs) {
            for (Paper x : theirs) {
                if (x.kind == 7 && x.names == c) {
                    return x;
                }
            }
            return null;
        }

        int[] told(int answer, int words, TreeSet<Integer> why) {
            boolean more = true;
            while (more) {
                more = false;
                for (int x : new ArrayList<>(why)) {
                    Paper paper = papers.get(x);
                    more |= paper.of != null && why.add(paper.of.number);
                    more |= paper.kind == 8 && why.add(paper.names.number);
                }
            }
            int[] row = new int[why.size() + 2];
            row[0] = answer;
            row[1] = words;
            int n = 2;
            for (int x : why) {
                row[n++] = x;
            }
            return row;
        }

        // Promises

        int agreement(int articleCount, int needed, int wait, int span) {
            if (terms.size() == 10 || articleCount < 1 || articleCount > 20 || needed < 1 || needed > 10
                || wait < 0 || wait > 1000 || span < 0 || span > 1000) {
                return -1;
            }
            terms.add(new int[] {articleCount, needed, wait, span});
            int[] row = new int[articleCount];
            for (int a = 0; a < articleCount; a++) {
                row[a] = a + 1;
            }
            articles.add(row);
            annexes.add(new ArrayList<>());
            return terms.size() - 1;
        }

        int article(int g, int a, int words) {
            if (!isArticle(g, a) || words < 1 || words > 1000000) {
                return -1;
            }
            for (Paper x : papers) {
                if (x.g == g) {
                    return -1;
                }
            }
            int before = articles.get(g)[a];
            articles.get(g)[a] = words;
            return before;
        }

        Paper lodge(int kind, int p, int g) {
            Paper x = new Paper();
            x.number = papers.size();
            x.kind = kind;
            x.party = p;
            x.g = g;
            x.lodged = clock;
            boolean waits = kind == 1 || kind == 2 || kind == 3 || kind == 5 || kind == 7 || kind == 8;
            x.effect = clock + (waits ? terms.get(g)[2] : 0);
            papers.add(x);
            return x;
        }

        boolean isSigned(int p, int g) {
            for (Paper x : papers) {
                if (x.kind == 0 && x.party == p && x.g == g) {
                    return true;
                }
            }
            return false;
        }

        int enter(int kind, int p, int g) {
            if (!isParty(p) || !isAgreement(g)) {
                return -2;
            }
            if (papers.size() == 400) {
                return -8;
            }
            if (kind == 0 && isSigned(p, g)) {
                return -4;
            }
            if (kind == 1 && !isSigned(p, g)) {
                return -5;
            }
            if (kind != 0 && belongs(p, g) != null) {
                return -4;
            }
            return lodge(kind, p, g).number;
        }

        int reserveOrChange(int kind, int p, int g, int a, int words) {
            if (!isParty(p) || !isArticle(g, a) || words > 1000000 || words < (kind == 3 ? 0 : 1)) {
                return -2;
            }
            if (papers.size() == 400) {
                return -8;
            }
            Paper m = belongs(p, g);
            if (m == null) {
                return -6;
            }
            Paper x = lodge(kind, p, g);
            x.of = m;
            x.article = a;
            x.words = words;
            return x.number;
        }

        Paper ofKind(int x, int... kinds) {
            if (x < 0 || x >= papers.size()) {
                return null;
            }
            for (int kind : kinds) {
                if (papers.get(x).kind == kind) {
                    return papers.get(x);
                }
            }
            return null;
        }

        int objectOrConsent(int kind, int q, int r, boolean mild) {
            Paper named = ofKind(r, kind == 4 ? 3 : 6);
            if (!isParty(q) || named == null) {
                return -2;
            }
            if (papers.size() == 400) {
                return -8;
            }
            Paper m = belongs(q, named.g);
            if (m == null) {
                return -6;
            }
            if (kind == 4 && holds(m, named, clock)) {
                return -7;
            }
            if (kind == 4 && clock > named.lodged + terms.get(named.g)[3]) {
                return -3;
            }
            for (Paper x : papers) {
                if (x.kind == kind && x.party == q && x.names == named && x.of == m
                    && namersOf(x, 99999, 5).isEmpty()) {
                    return -4;
                }
            }
            Paper x = lodge(kind, q, named.g);
            x.names = named;
            x.of = m;
            x.flag = mild;
            return x.number;
        }

        int withdraw(int p, int x) {
            Paper named = ofKind(x, 1, 2, 8, 3, 4, 7);
            if (!isParty(p) || named == null) {
                return -2;
            }
            if (papers.size() == 400) {
                return -8;
            }
            Paper m = belongs(p, named.g);
            if (m == null) {
                return -6;
            }
            if (named != m && (named.of == null || !holds(m, named, clock))) {
                return -7;
            }
            if (!namersOf(named, 99999, 5).isEmpty()) {
                return -4;
            }
            Paper made = lodge(5, p, named.g);
            made.names = named;
            return made.number;
        }

        int follow(int p, int q, int g, boolean flag) {
            if (!isParty(p) || !isParty(q) || !isAgreement(g)) {
                return -2;
            }
            if (papers.size() == 400) {
                return -8;
            }
            if (belongs(p, g) != null || p == q) {
                return -4;
            }
            Paper named = belongs(q, g);
            if (named == null) {
                return -6;
            }
            Paper made = lodge(8, p, g);
            made.names = named;
            made.flag = flag;
            return made.number;
        }

        int note(long v) {
            if (papers.size() == 400) {
                return -8;
            }
            Paper made = lodge(9, -1, -1);
            made.value = v;
            return made.number;
        }

        int undo() {
            if (papers.isEmpty() || papers.get(papers.size() - 1).lodged != clock) {
                return -1;
            }
            return papers.remove(papers.size() - 1).number;
        }

        boolean isCase(int p, int q, int g, int a, int d, int k) {
            return isParty(p) && isParty(q) && p != q && isArticle(g, a) && isDay(d) && isDay(k);
        }

        int first(int p, int q, int g, int a) {
            if (!isCase(p, q, g, a, clock, clock)) {
                return -1;
            }
            int[] now = between(p, q, g, a, clock, clock);
            int day = clock;
            while (day > 0) {
                int[] then = between(p, q, g, a, day - 1, clock);
                if (then[0] != now[0] || then[1] != now[1]) {
                    break;
                }
                day--;
            }
            return day;
        }

        int since(int g) {
            if (!isAgreement(g) || members(g, clock, clock).size() < needed(g)) {
                return -1;
            }
            int day = clock;
            while (day > 0 && members(g, day - 1, clock).size() >= needed(g)) {
                day--;
            }
            return day;
        }

        int paper(int number, int what) {
            if (number < 0 || number >= papers.size()) {
                return -1;
            }
            Paper x = papers.get(number);
            int named = x.names == null ? -1 : x.names.number;
            int of = x.of == null ? -1 : x.of.number;
            int[] row = {x.kind, x.party, x.g, x.lodged, x.effect, named, of, x.article, x.words, x.flag ? 1 : 0};
            return what < 0 || what >= row.length ? -1 : row[what];
        }

        int count(int what) {
            int[] row = {parties, terms.size(), papers.size(), clock};
            if (what >= 0 && what < 4) {
                return row[what];
            }
            int g = what / 10 - 1;
            if (what < 10 || !isAgreement(g) || what % 10 > 4) {
                return -1;
            }
            return what % 10 == 4 ? annexes.get(g).size() : terms.get(g)[what % 10];
        }

        int annex(int g, int width, int n) {
            if (!isAgreement(g) || width < 0 || width > 3 || n > 100) {
                return -2;
            }
            if (annexes.get(g).size() == 8) {
                return -8;
            }
            if (n < 0) {
                return -3;
            }
            Annex made = new Annex();
            made.width = width;
            made.size = n;
            made.numbers = new long[n];
            annexes.get(g).add(made);
            return annexes.get(g).size() - 1;
        }

        Annex annexAt(int g, int x) {
            return isAgreement(g) && x >= 0 && x < annexes.get(g).size() ? annexes.get(g).get(x) : null;
        }

        int mayWrite(int g, int x, int i) {
            Annex annex = annexAt(g, x);
            if (annex == null) {
                return -2;
            }
            return annex.missing ? -5 : i < 0 || i >= annex.size ? -6 : 0;
        }

        int write(int g, int x, int i, long v) {
            int answer = mayWrite(g, x, i);
            if (answer == 0) {
                int cut = 64 - (8 << annexAt(g, x).width);
                annexAt(g, x).numbers[i] = v << cut >> cut;
            }
            return answer;
        }

        int copy(int g, int x, int i, int h, int y, int j, int n) {
            Annex from = annexAt(g, x);
            Annex to = annexAt(h, y);
            if (from == null || to == null) {
                return -2;
            }
            if (from.missing || to.missing) {
                return -5;
            }
            if (from.width != to.width) {
                return -7;
            }
            if (i < 0 || j < 0 || n < 0 || (long) i + n > from.size || (long) j + n > to.size) {
                return -6;
            }
            long[] taken = Arrays.copyOfRange(from.numbers, i, i + n);
            for (int at = 0; at < n; at++) {
                to.numbers[j + at] = taken[at];
            }
            return 0;
        }
    }

    /** One run: chooses calls, and makes each of them on both. */
    private static final class Run {
        final int run;
        final Random random;
        final TreatyHouse house = new TreatyHouse();
        final Model model = new Model();
        final boolean isDense;
        int calls;

        Run(int run) {
            this.run = run;
            this.random = new Random(7919L * run + 1);
            this.isDense = run % 8 == 7;
        }

        void due(String call, long got, long want) {
            calls++;
            check.due("run " + run + ", call " + calls + ": " + call, got, want);
        }

        int upTo(int most) {
            return random.nextInt(most + 1);
        }

        boolean oneIn(int n) {
            return random.nextInt(n) == 0;
        }

        int p() {
            return oneIn(120) ? model.parties : oneIn(150) ? -1 : upTo(Math.max(0, model.parties - 1));
        }

        /** Mostly a PARTY that BELONGS to g, or mostly one that does not. */
        int p(int g, boolean isInside) {
            int p = p();
            for (int i = 0; i < 6 && model.isAgreement(g) && (model.belongs(p, g) != null) != isInside; i++) {
                p = p();
            }
            return p;
        }

        int g() {
            return oneIn(120) ? model.terms.size() : oneIn(150) ? -1 : upTo(Math.max(0, model.terms.size() - 1));
        }

        int a(int g) {
            int most = model.isAgreement(g) ? model.articles.get(g).length - 1 : 0;
            return oneIn(120) ? most + 1 : oneIn(150) ? -1 : upTo(most);
        }

        int x() {
            int n = model.papers.size();
            return oneIn(80) ? n : oneIn(120) ? -1 : n == 0 ? 0 : oneIn(2) ? upTo(n - 1) : n - 1 - upTo(Math.min(n - 1, 9));
        }

        int xOfKind(int... kinds) {
            int x = x();
            for (int i = 0; i < 12 && model.ofKind(x, kinds) == null; i++) {
                x = x();
            }
            return x;
        }

        int day() {
            return oneIn(150) ? 73001 : oneIn(150) ? -1 : oneIn(30) ? 73000
                : oneIn(2) ? model.clock + upTo(4) : upTo(model.clock + 6);
        }

        void play() {
            int parties = 2 + upTo(4);
            int agreements = oneIn(2) ? 1 : 1 + upTo(2);
            for (int i = 0; i < parties; i++) {
                party();
            }
            for (int i = 0; i < agreements; i++) {
                agreement(1 + upTo(2), 1 + upTo(oneIn(4) ? 3 : 1), oneIn(3) ? 0 : upTo(4), upTo(6));
            }
            int length = isDense ? 490 : 120 + upTo(240);
            while (calls < length && !check.hasWrong()) {
                int choice = upTo(99);
                if (choice < (isDense ? 88 : 58)) {
                    lodge();
                } else if (choice < 61 && !isDense) {
                    int ahead = oneIn(30) ? -1 : upTo(3);
                    due("clock +" + ahead, house.clock(model.clock + ahead) ? 1 : 0, ahead >= 0 ? 1 : 0);
                    model.clock += Math.max(0, ahead);
                } else if (choice < 91) {
                    ask();
                } else {
                    annexes();
                }
            }
        }

        void party() {
            int want = model.parties == 30 ? -1 : model.parties++;
            due("party()", house.party(), want);
        }

        void agreement(int articles, int needed, int wait, int span) {
            due("agreement(" + articles + ", " + needed + ", " + wait + ", " + span + ")",
                house.agreement(articles, needed, wait, span), model.agreement(articles, needed, wait, span));
        }

        void lodge() {
            int g = g();
            int choice = upTo(18);
            boolean isEntry = choice <= 2 || choice >= 17 || choice == 13 || choice == 14;
            int p = oneIn(6) ? p() : p(g, !isEntry);
            int a = a(g);
            boolean flag = oneIn(2);
            switch (choice) {
                case 0: due("sign(" + p + ", " + g + ")", house.sign(p, g), model.enter(0, p, g)); break;
                case 1: due("ratify(" + p + ", " + g + ")", house.ratify(p, g), model.enter(1, p, g)); break;
                case 2:
                case 17:
                case 18: due("join(" + p + ", " + g + ")", house.join(p, g), model.enter(2, p, g)); break;
                case 3:
                case 4: {
                    int words = oneIn(4) ? 0 : oneIn(30) ? -1 : 100 + upTo(3);
                    due("reserve(" + p + ", " + g + ", " + a + ", " + words + ")",
                        house.reserve(p, g, a, words), model.reserveOrChange(3, p, g, a, words));
                    break;
                }
                case 5:
                case 6:
                case 7: {
                    int r = xOfKind(3);
                    boolean mild = !oneIn(6);
                    due("object(" + p + ", " + r + ", " + mild + ")",
                        house.object(p, r, mild), model.objectOrConsent(4, p, r, mild));
                    break;
                }
                case 8:
                case 9: {
                    int x = oneIn(4) ? xOfKind(1, 2, 8) : xOfKind(3, 4, 7);
                    Paper paper = model.ofKind(x, 1, 2, 3, 4, 7, 8);
                    p = paper != null && !oneIn(3) ? paper.party : p;
                    p = paper != null && oneIn(3) ? holder(paper) : p;
                    due("withdraw(" + p + ", " + x + ")", house.withdraw(p, x), model.withdraw(p, x));
                    break;
                }
                case 10: {
                    int words = oneIn(20) ? 0 : 200 + upTo(3);
                    due("change(" + p + ", " + g + ", " + a + ", " + words + ")",
                        house.change(p, g, a, words), model.reserveOrChange(6, p, g, a, words));
                    break;
                }
                case 11:
                case 12: {
                    int c = xOfKind(6);
                    due("consent(" + p + ", " + c + ")", house.consent(p, c), model.objectOrConsent(7, p, c, false));
                    break;
                }
                case 13:
                case 14: {
                    int q = p(g, true);
                    due("follow(" + p + ", " + q + ", " + g + ", " + flag + ")",
                        house.follow(p, q, g, flag), model.follow(p, q, g, flag));
                    break;
                }
                default: rest(g, a);
            }
        }

        /** A PARTY whose MEMBERSHIP HOLDS the PAPER, if there is one. */
        int holder(Paper paper) {
            for (int p = 0; p < model.parties; p++) {
                Paper m = model.belongs(p, paper.g);
                if (m != null && (m == paper || paper.of != null && model.holds(m, paper, model.clock))) {
                    return p;
                }
            }
            return p();
        }

        void rest(int g, int a) {
            switch (upTo(4)) {
                case 0: {
                    long v = random.nextLong();
                    due("note(" + v + ")", house.note(v), model.note(v));
                    break;
                }
                case 1:
                case 2: due("undo()", house.undo(), model.undo()); break;
                case 3: due("article(" + g + ", " + a + ", 9)", house.article(g, a, 9), model.article(g, a, 9)); break;
                default:
                    if (oneIn(3)) {
                        party();
                    } else {
                        agreement(upTo(4), upTo(3), upTo(2), upTo(2));
                    }
            }
        }

        void ask() {
            int g = g();
            int p = oneIn(3) ? p() : p(g, true);
            int q = oneIn(3) ? p() : p(g, true);
            for (int i = 0; i < 6 && p == q; i++) {
                q = p(g, true);
            }
            int a = a(g);
            int d = day();
            int k = oneIn(2) ? model.clock : day();
            String told = p + ", " + q + ", " + g + ", " + a;
            switch (upTo(11)) {
                case 0:
                case 1:
                case 2: between(p, q, g, a, d, k); break;
                case 3: between(p, q, g, a, model.clock + upTo(4), model.clock); break;
                case 4:
                    if (!isDense || oneIn(4)) {
                        due("first(" + told + ")", house.first(p, q, g, a), model.first(p, q, g, a));
                    }
                    break;
                case 5: {
                    Paper m = model.isParty(p) && model.isAgreement(g) && Model.isDay(d) && Model.isDay(k)
                        ? model.member(p, g, d, k) : null;
                    due("member(" + p + ", " + g + ", " + d + ", " + k + ")", house.member(p, g, d, k),
                        m == null ? -1 : m.number);
                    break;
                }
                case 6:
                    due("members(" + g + ", " + d + ", " + k + ")", house.members(g, d, k),
                        model.isAgreement(g) && Model.isDay(d) && Model.isDay(k) ? model.members(g, d, k).size() : -1);
                    break;
                case 7: due("since(" + g + ")", house.since(g), model.since(g)); break;
                case 8: has(p, g, d, k); break;
                case 9: {
                    int x = x();
                    for (int what = -1; what <= 10; what++) {
                        due("paper(" + x + ", " + what + ")", house.paper(x, what), model.paper(x, what));
                    }
                    break;
                }
                case 10: {
                    int x = xOfKind(9);
                    Paper paper = model.ofKind(x, 9);
                    due("noted(" + x + ")", house.noted(x), paper == null ? 0 : paper.value);
                    break;
                }
                default: {
                    int what = upTo(60) - 3;
                    due("count(" + what + ")", house.count(what), model.count(what));
                }
            }
        }

        void between(int p, int q, int g, int a, int d, int k) {
            String told = p + ", " + q + ", " + g + ", " + a + ", " + d + ", " + k;
            boolean isCase = model.isCase(p, q, g, a, d, k);
            int[] want = isCase ? model.between(p, q, g, a, d, k) : new int[] {-1, -1};
            due("between(" + told + ")", house.between(p, q, g, a, d, k), want[0]);
            due("words(" + told + ")", house.words(p, q, g, a, d, k), want[1]);
            for (int i = 0; i <= want.length - 2; i++) {
                due("why(" + told + ", " + i + ")", house.why(p, q, g, a, d, k, i),
                    i + 2 < want.length ? want[i + 2] : -1);
            }
        }

        void has(int p, int g, int d, int k) {
            boolean isCase = model.isParty(p) && model.isAgreement(g) && Model.isDay(d) && Model.isDay(k);
            List<Paper> want = isCase ? model.has(p, g, d, k) : List.of();
            for (int i = 0; i <= want.size(); i++) {
                due("has(" + p + ", " + g + ", " + d + ", " + k + ", " + i + ")", house.has(p, g, d, k, i),
                    i < want.size() ? want.get(i).number : -1);
            }
        }

        int around(int most) {
            return oneIn(50) ? Integer.MAX_VALUE : oneIn(50) ? Integer.MIN_VALUE : upTo(most + 2) - 1;
        }

        int annexOf(int g) {
            int n = model.isAgreement(g) ? model.annexes.get(g).size() : 0;
            return n == 0 || oneIn(20) ? around(n) : upTo(n - 1);
        }

        boolean isAlike(int g, int x, int h, int y) {
            Annex from = model.annexAt(g, x);
            Annex to = model.annexAt(h, y);
            return from != null && to != null && !from.missing && !to.missing && from.width == to.width;
        }

        void annexes() {
            int g = g();
            int h = g();
            int x = annexOf(g);
            int y = annexOf(h);
            for (int i = 0; i < 6 && !isAlike(g, x, h, y); i++) {
                y = annexOf(h);
            }
            switch (upTo(9)) {
                case 0:
                case 1: {
                    int width = oneIn(8) ? upTo(9) - 3 : upTo(3);
                    int n = oneIn(8) ? 97 + upTo(5) : upTo(9) - 1;
                    due("annex(" + g + ", " + width + ", " + n + ")", house.annex(g, width, n), model.annex(g, width, n));
                    break;
                }
                case 2: {
                    Annex annex = model.annexAt(g, x);
                    boolean want = annex != null && !annex.missing && oneIn(4);
                    if (want) {
                        annex.missing = true;
                        due("tear(" + g + ", " + x + ")", house.tear(g, x) ? 1 : 0, 1);
                    } else if (annex == null || annex.missing) {
                        due("tear(" + g + ", " + x + ")", house.tear(g, x) ? 1 : 0, 0);
                    }
                    break;
                }
                case 3:
                case 4:
                case 5: {
                    int i = around(6);
                    long v = random.nextLong() >> random.nextInt(64);
                    due("write(" + g + ", " + x + ", " + i + ", " + v + ")",
                        house.write(g, x, i, v), model.write(g, x, i, v));
                    read(g, x, i);
                    break;
                }
                case 6: {
                    Annex annex = model.annexAt(g, x);
                    due("size(" + g + ", " + x + ")", house.size(g, x),
                        annex == null ? -2 : annex.missing ? -5 : annex.size);
                    break;
                }
                default: {
                    int i = around(4);
                    int j = around(4);
                    int n = around(3);
                    due("copy(" + g + ", " + x + ", " + i + ", " + h + ", " + y + ", " + j + ", " + n + ")",
                        house.copy(g, x, i, h, y, j, n), model.copy(g, x, i, h, y, j, n));
                    read(h, y, around(6));
                }
            }
        }

        void read(int g, int x, int i) {
            due("read(" + g + ", " + x + ", " + i + ")", house.read(g, x, i),
                model.mayWrite(g, x, i) == 0 ? model.annexAt(g, x).numbers[i] : 0);
        }
    }
}
