/**
 * A depositary of agreements between parties. The words in capitals below are those of the document:
 * PAPERS, MEMBERSHIPS, HELD, STANDS, HAS and so on.
 */
public final class TreatyHouse {
    public static final int NONE = -1;

    private static final int MAX_PARTIES = 30;
    private static final int MAX_AGREEMENTS = 10;
    private static final int MAX_ARTICLES = 20;
    private static final int MAX_NEEDED = 10;
    private static final int MAX_TERM = 1000;
    private static final int MAX_WORDS = 1000000;
    private static final int MAX_PAPERS = 400;
    private static final int LAST_DAY = 73000;
    private static final int MAX_ANNEXES = 8;
    private static final int MAX_NUMBERS = 100;
    private static final int WIDEST = 3;

    private static final int SIGN = 0;
    private static final int RATIFY = 1;
    private static final int JOIN = 2;
    private static final int RESERVE = 3;
    private static final int OBJECT = 4;
    private static final int WITHDRAW = 5;
    private static final int CHANGE = 6;
    private static final int CONSENT = 7;
    private static final int FOLLOW = 8;
    private static final int NOTE = 9;

    private static final int NOT_BOUND = 0;
    private static final int BOUND = 1;
    private static final int RESERVED = 2;
    private static final int LEFT_OUT = 3;
    private static final int CHANGED = 4;

    private static final int NO_SUCH_THING = -2;
    private static final int TOO_LATE = -3;
    private static final int ALREADY_DONE = -4;
    private static final int NOT_SIGNED = -5;
    private static final int NOT_BELONGING = -6;
    private static final int WRONG_HOLDER = -7;
    private static final int NO_ROOM = -8;

    private static final int BELOW_ZERO = -3;
    private static final int MISSING = -5;
    private static final int NO_SUCH_NUMBER = -6;
    private static final int UNLIKE_WIDTHS = -7;

    private final Agreement[] agreements;
    private final Register register;
    private final Roll roll;
    private final Bond bond;
    private int agreementCount;
    private int partyCount;
    private int today;

    public TreatyHouse() {
        agreements = new Agreement[MAX_AGREEMENTS];
        register = new Register();
        roll = new Roll();
        bond = new Bond();
    }

    public int party() {
        if (partyCount >= MAX_PARTIES) {
            return NONE;
        }
        partyCount++;
        return partyCount - 1;
    }

    public int agreement(int articles, int needed, int wait, int span) {
        if (agreementCount < 0 || agreementCount >= agreements.length) {
            return NONE;
        }
        if (!isFrom(1, MAX_ARTICLES, articles) || !isFrom(1, MAX_NEEDED, needed)) {
            return NONE;
        }
        if (!isFrom(0, MAX_TERM, wait) || !isFrom(0, MAX_TERM, span)) {
            return NONE;
        }
        agreements[agreementCount] = new Agreement(agreementCount, articles, needed, wait, span);
        agreementCount++;
        return agreementCount - 1;
    }

    public int article(int g, int a, int words) {
        Agreement about = agreementAt(g);
        if (about == null || !about.hasArticle(a) || !isFrom(1, MAX_WORDS, words)) {
            return NONE;
        }
        if (register.hasAny(about)) {
            return NONE;
        }
        return about.reword(a, words);
    }

    public boolean clock(int day) {
        if (day < today || day > LAST_DAY) {
            return false;
        }
        today = day;
        return true;
    }

    public int sign(int p, int g) {
        Agreement about = agreementAt(g);
        if (!isParty(p) || about == null) {
            return NO_SUCH_THING;
        }
        if (register.isFull()) {
            return NO_ROOM;
        }
        if (register.hasSign(p, about)) {
            return ALREADY_DONE;
        }
        return register.lodge(SIGN, p, about, today, today).number;
    }

    public int ratify(int p, int g) {
        Agreement about = agreementAt(g);
        if (!isParty(p) || about == null) {
            return NO_SUCH_THING;
        }
        if (register.isFull()) {
            return NO_ROOM;
        }
        if (!register.hasSign(p, about)) {
            return NOT_SIGNED;
        }
        if (register.belonging(p, about) != null) {
            return ALREADY_DONE;
        }
        return register.lodge(RATIFY, p, about, today, today + about.wait).number;
    }

    public int join(int p, int g) {
        Agreement about = agreementAt(g);
        if (!isParty(p) || about == null) {
            return NO_SUCH_THING;
        }
        if (register.isFull()) {
            return NO_ROOM;
        }
        if (register.belonging(p, about) != null) {
            return ALREADY_DONE;
        }
        return register.lodge(JOIN, p, about, today, today + about.wait).number;
    }

    public int reserve(int p, int g, int a, int words) {
        Agreement about = agreementAt(g);
        if (!isParty(p) || about == null || !about.hasArticle(a) || !isFrom(0, MAX_WORDS, words)) {
            return NO_SUCH_THING;
        }
        if (register.isFull()) {
            return NO_ROOM;
        }
        Paper membership = register.belonging(p, about);
        if (membership == null) {
            return NOT_BELONGING;
        }
        Paper made = register.lodge(RESERVE, p, about, today, today + about.wait);
        made.of = membership;
        made.article = a;
        made.words = words;
        return made.number;
    }

    public int object(int q, int r, boolean mild) {
        Paper reserve = register.at(r);
        if (!isParty(q) || reserve == null || reserve.kind != RESERVE || reserve.about == null) {
            return NO_SUCH_THING;
        }
        if (register.isFull()) {
            return NO_ROOM;
        }
        Paper membership = register.belonging(q, reserve.about);
        if (membership == null) {
            return NOT_BELONGING;
        }
        if (reserve.isHeldBy(membership, today)) {
            return WRONG_HOLDER;
        }
        if (today - reserve.lodged > reserve.about.span) {
            return TOO_LATE;
        }
        if (reserve.isAnsweredBy(membership)) {
            return ALREADY_DONE;
        }
        Paper made = register.lodge(OBJECT, q, reserve.about, today, today);
        made.of = membership;
        made.marked = mild;
        made.answer(reserve);
        return made.number;
    }

    public int withdraw(int p, int x) {
        Paper paper = register.at(x);
        if (!isParty(p) || paper == null || !paper.isWithdrawable() || paper.about == null) {
            return NO_SUCH_THING;
        }
        if (register.isFull()) {
            return NO_ROOM;
        }
        Paper membership = register.belonging(p, paper.about);
        if (membership == null) {
            return NOT_BELONGING;
        }
        if (paper != membership && !paper.isHeldBy(membership, today)) {
            return WRONG_HOLDER;
        }
        if (paper.endedBy != null) {
            return ALREADY_DONE;
        }
        Paper made = register.lodge(WITHDRAW, p, paper.about, today, today + paper.about.wait);
        made.end(paper);
        return made.number;
    }

    public int change(int p, int g, int a, int words) {
        Agreement about = agreementAt(g);
        if (!isParty(p) || about == null || !about.hasArticle(a) || !isFrom(1, MAX_WORDS, words)) {
            return NO_SUCH_THING;
        }
        if (register.isFull()) {
            return NO_ROOM;
        }
        Paper membership = register.belonging(p, about);
        if (membership == null) {
            return NOT_BELONGING;
        }
        Paper made = register.lodge(CHANGE, p, about, today, today);
        made.of = membership;
        made.article = a;
        made.words = words;
        return made.number;
    }

    public int consent(int p, int c) {
        Paper change = register.at(c);
        if (!isParty(p) || change == null || change.kind != CHANGE || change.about == null) {
            return NO_SUCH_THING;
        }
        if (register.isFull()) {
            return NO_ROOM;
        }
        Paper membership = register.belonging(p, change.about);
        if (membership == null) {
            return NOT_BELONGING;
        }
        if (change.isAnsweredBy(membership)) {
            return ALREADY_DONE;
        }
        Paper made = register.lodge(CONSENT, p, change.about, today, today + change.about.wait);
        made.of = membership;
        made.answer(change);
        return made.number;
    }

    public int follow(int p, int q, int g, boolean papers) {
        Agreement about = agreementAt(g);
        if (!isParty(p) || !isParty(q) || about == null) {
            return NO_SUCH_THING;
        }
        if (register.isFull()) {
            return NO_ROOM;
        }
        if (p == q || register.belonging(p, about) != null) {
            return ALREADY_DONE;
        }
        Paper leader = register.belonging(q, about);
        if (leader == null) {
            return NOT_BELONGING;
        }
        Paper made = register.lodge(FOLLOW, p, about, today, today + about.wait);
        made.marked = papers;
        made.end(leader);
        return made.number;
    }

    public int note(long v) {
        if (register.isFull()) {
            return NO_ROOM;
        }
        Paper made = register.lodge(NOTE, NONE, null, today, today);
        made.value = v;
        return made.number;
    }

    public int undo() {
        Paper latest = register.at(register.length - 1);
        if (latest == null || latest.lodged != today) {
            return NONE;
        }
        latest.release();
        register.dropLatest();
        return latest.number;
    }

    public int between(int p, int q, int g, int a, int d, int k) {
        return settle(p, q, g, a, d, k) ? bond.answer : NONE;
    }

    public int words(int p, int q, int g, int a, int d, int k) {
        return settle(p, q, g, a, d, k) ? bond.words : NONE;
    }

    public int why(int p, int q, int g, int a, int d, int k, int i) {
        return settle(p, q, g, a, d, k) ? bond.reason(register, i) : NONE;
    }

    public int first(int p, int q, int g, int a) {
        if (!settle(p, q, g, a, today, today)) {
            return NONE;
        }
        Agreement about = agreementAt(g);
        int answer = bond.answer;
        int words = bond.words;
        int day = today;
        // Between two EFFECTS nothing about the AGREEMENT changes, so it is enough to look on the day ahead of each.
        for (int step = 0; step <= MAX_PAPERS; step++) {
            day = register.latestEffect(about, day);
            if (day <= 0) {
                return 0;
            }
            settle(p, q, g, a, day - 1, today);
            if (bond.answer != answer || bond.words != words) {
                return day;
            }
            day--;
        }
        return day;
    }

    public int member(int p, int g, int d, int k) {
        Agreement about = agreementAt(g);
        if (!isParty(p) || about == null || !isDay(d) || !isDay(k)) {
            return NONE;
        }
        roll.fill(register, about, d, k);
        return numberOf(roll.at(p));
    }

    public int members(int g, int d, int k) {
        Agreement about = agreementAt(g);
        if (about == null || !isDay(d) || !isDay(k)) {
            return NONE;
        }
        roll.fill(register, about, d, k);
        return roll.length;
    }

    public int since(int g) {
        Agreement about = agreementAt(g);
        if (about == null) {
            return NONE;
        }
        roll.fill(register, about, today, today);
        if (roll.length < about.needed) {
            return NONE;
        }
        int day = today;
        for (int step = 0; step <= MAX_PAPERS; step++) {
            day = register.latestEffect(about, day);
            if (day <= 0) {
                return 0;
            }
            roll.fill(register, about, day - 1, today);
            if (roll.length < about.needed) {
                return day;
            }
            day--;
        }
        return day;
    }

    public int has(int p, int g, int d, int k, int i) {
        Agreement about = agreementAt(g);
        if (!isParty(p) || about == null || !isDay(d) || !isDay(k)) {
            return NONE;
        }
        roll.fill(register, about, d, k);
        return numberOf(register.nthOfMember(roll.at(p), d, k, i));
    }

    public int paper(int x, int what) {
        Paper paper = register.at(x);
        return paper == null ? NONE : paper.detail(what);
    }

    public long noted(int x) {
        Paper paper = register.at(x);
        return paper == null ? 0L : paper.value;
    }

    public int annex(int g, int width, int n) {
        Agreement about = agreementAt(g);
        if (about == null || !isFrom(0, WIDEST, width) || n > MAX_NUMBERS) {
            return NO_SUCH_THING;
        }
        if (about.annexCount >= MAX_ANNEXES) {
            return NO_ROOM;
        }
        if (n < 0) {
            return BELOW_ZERO;
        }
        return about.addAnnex(new Annex(width, n));
    }

    public boolean tear(int g, int x) {
        Annex annex = annexAt(g, x);
        if (annex == null || annex.numbers == null) {
            return false;
        }
        annex.numbers = null;
        return true;
    }

    public int write(int g, int x, int i, long v) {
        Annex annex = annexAt(g, x);
        if (annex == null) {
            return NO_SUCH_THING;
        }
        return annex.put(i, v);
    }

    public long read(int g, int x, int i) {
        Annex annex = annexAt(g, x);
        return annex == null ? 0L : annex.get(i);
    }

    public int size(int g, int x) {
        Annex annex = annexAt(g, x);
        if (annex == null) {
            return NO_SUCH_THING;
        }
        return annex.numbers == null ? MISSING : annex.numbers.length;
    }

    public int copy(int g, int x, int i, int h, int y, int j, int n) {
        Annex from = annexAt(g, x);
        Annex to = annexAt(h, y);
        if (from == null || to == null) {
            return NO_SUCH_THING;
        }
        if (from.numbers == null || to.numbers == null) {
            return MISSING;
        }
        if (from.width != to.width) {
            return UNLIKE_WIDTHS;
        }
        if (!from.hasRange(i, n) || !to.hasRange(j, n)) {
            return NO_SUCH_NUMBER;
        }
        System.arraycopy(from.numbers, i, to.numbers, j, n);
        return 0;
    }

    public int count(int what) {
        switch (what) {
            case 0:
                return partyCount;
            case 1:
                return agreementCount;
            case 2:
                return register.length;
            case 3:
                return today;
            default:
                break;
        }
        if (what < 10) {
            return NONE;
        }
        Agreement about = agreementAt(what / 10 - 1);
        return about == null ? NONE : about.detail(what % 10);
    }

    private boolean settle(int p, int q, int g, int a, int d, int k) {
        Agreement about = agreementAt(g);
        if (!isParty(p) || !isParty(q) || p == q || about == null || !about.hasArticle(a)) {
            return false;
        }
        if (!isDay(d) || !isDay(k)) {
            return false;
        }
        bond.settle(register, p, q, about, a, d, k);
        return true;
    }

    private Agreement agreementAt(int g) {
        return g >= 0 && g < agreementCount && g < agreements.length ? agreements[g] : null;
    }

    private Annex annexAt(int g, int x) {
        Agreement about = agreementAt(g);
        return about == null ? null : about.annexAt(x);
    }

    private boolean isParty(int p) {
        return p >= 0 && p < partyCount;
    }

    private static boolean isDay(int day) {
        return isFrom(0, LAST_DAY, day);
    }

    private static boolean isFrom(int least, int most, int number) {
        return number >= least && number <= most;
    }

    private static int numberOf(Paper paper) {
        return paper == null ? NONE : paper.number;
    }

    private static final class Agreement {
        final int number;
        final int needed;
        final int wait;
        final int span;
        final int[] wordings;
        final Annex[] annexes;
        int annexCount;

        Agreement(int number, int articles, int needed, int wait, int span) {
            this.number = number;
            this.needed = needed;
            this.wait = wait;
            this.span = span;
            this.wordings = new int[articles < 0 ? 0 : articles];
            this.annexes = new Annex[MAX_ANNEXES];
            for (int a = 0; a < wordings.length; a++) {
                wordings[a] = a + 1;
            }
        }

        boolean hasArticle(int a) {
            return a >= 0 && a < wordings.length;
        }

        int wordsOf(int a) {
            return a >= 0 && a < wordings.length ? wordings[a] : NONE;
        }

        int reword(int a, int words) {
            if (a < 0 || a >= wordings.length) {
                return NONE;
            }
            int before = wordings[a];
            wordings[a] = words;
            return before;
        }

        Annex annexAt(int x) {
            return x >= 0 && x < annexCount && x < annexes.length ? annexes[x] : null;
        }

        int addAnnex(Annex annex) {
            if (annexCount < 0 || annexCount >= annexes.length) {
                return NO_ROOM;
            }
            annexes[annexCount] = annex;
            annexCount++;
            return annexCount - 1;
        }

        int detail(int what) {
            switch (what) {
                case 0:
                    return wordings.length;
                case 1:
                    return needed;
                case 2:
                    return wait;
                case 3:
                    return span;
                case 4:
                    return annexCount;
                default:
                    return NONE;
            }
        }
    }

    private static final class Annex {
        final int width;
        /** Null when the ANNEX was torn: it is MISSING. */
        long[] numbers;

        Annex(int width, int length) {
            this.width = width;
            this.numbers = new long[length < 0 ? 0 : length];
        }

        int put(int i, long v) {
            if (numbers == null) {
                return MISSING;
            }
            if (i < 0 || i >= numbers.length) {
                return NO_SUCH_NUMBER;
            }
            numbers[i] = cut(v);
            return 0;
        }

        long get(int i) {
            return numbers != null && i >= 0 && i < numbers.length ? numbers[i] : 0L;
        }

        /** The subtraction can't overflow, as the sum of start and length could. */
        boolean hasRange(int start, int length) {
            return numbers != null && start >= 0 && length >= 0 && start <= numbers.length
                && length <= numbers.length - start;
        }

        private long cut(long v) {
            switch (width) {
                case 0:
                    return (byte) v;
                case 1:
                    return (short) v;
                case 2:
                    return (int) v;
                default:
                    return v;
            }
        }
    }

    private static final class Paper {
        final int number;
        final int kind;
        final int party;
        /** Null for a NOTE alone. */
        final Agreement about;
        final int lodged;
        final int effect;
        /** The PAPER that it names, or null. */
        Paper names;
        /** The MEMBERSHIP that it is OF, or null. */
        Paper of;
        int article = NONE;
        int words = NONE;
        /** A mild OBJECT, or a FOLLOW with PAPERS. */
        boolean marked;
        long value;
        /** The WITHDRAW or FOLLOW that names it; the refusals leave room for one alone. */
        Paper endedBy;
        /** The latest OBJECT or CONSENT to it; from there earlierAnswer leads on to those before. */
        Paper latestAnswer;
        Paper earlierAnswer;

        Paper(int number, int kind, int party, Agreement about, int lodged, int effect) {
            this.number = number;
            this.kind = kind;
            this.party = party;
            this.about = about;
            this.lodged = lodged;
            this.effect = effect;
        }

        boolean isMembership() {
            return kind == RATIFY || kind == JOIN || kind == FOLLOW;
        }

        boolean isWithdrawable() {
            return isMembership() || kind == RESERVE || kind == OBJECT || kind == CONSENT;
        }

        void end(Paper named) {
            names = named;
            named.endedBy = this;
        }

        void answer(Paper named) {
            names = named;
            earlierAnswer = named.latestAnswer;
            named.latestAnswer = this;
        }

        /** Takes back what this PAPER, the latest of all, has left behind on the one that it names. */
        void release() {
            if (names == null) {
                return;
            }
            if (names.endedBy == this) {
                names.endedBy = null;
            }
            if (names.latestAnswer == this) {
                names.latestAnswer = earlierAnswer;
            }
        }

        boolean isAnsweredBy(Paper membership) {
            for (Paper answer = latestAnswer; answer != null; answer = answer.earlierAnswer) {
                if (answer.of == membership && answer.endedBy == null) {
                    return true;
                }
            }
            return false;
        }

        boolean stands(int d, int k) {
            if (lodged > k || effect > d) {
                return false;
            }
            return endedBy == null || endedBy.lodged > k || endedBy.effect > d;
        }

        /** The chain ends, as a FOLLOW names a PAPER lodged before it. */
        boolean isHeldBy(Paper membership, int k) {
            if (of == null) {
                return false;
            }
            Paper holder = membership;
            while (holder != null && holder != of) {
                if (holder.kind != FOLLOW || !holder.marked || !stands(holder.effect - 1, k)) {
                    return false;
                }
                holder = holder.names;
            }
            return holder != null;
        }

        int detail(int what) {
            switch (what) {
                case 0:
                    return kind;
                case 1:
                    return party;
                case 2:
                    return about == null ? NONE : about.number;
                case 3:
                    return lodged;
                case 4:
                    return effect;
                case 5:
                    return numberOf(names);
                case 6:
                    return numberOf(of);
                case 7:
                    return article;
                case 8:
                    return words;
                case 9:
                    return marked ? 1 : 0;
                default:
                    return NONE;
            }
        }
    }

    /** All PAPERS, by their numbers. */
    private static final class Register {
        final Paper[] papers;
        int length;

        Register() {
            papers = new Paper[MAX_PAPERS];
        }

        boolean isFull() {
            return length >= papers.length;
        }

        Paper at(int x) {
            return x >= 0 && x < length && x < papers.length ? papers[x] : null;
        }

        Paper lodge(int kind, int party, Agreement about, int lodged, int effect) {
            Paper made = new Paper(length, kind, party, about, lodged, effect);
            if (length >= 0 && length < papers.length) {
                papers[length] = made;
                length++;
            }
            return made;
        }

        void dropLatest() {
            if (length > 0 && length <= papers.length) {
                length--;
                papers[length] = null;
            }
        }

        boolean hasAny(Agreement about) {
            for (int x = 0; x < length; x++) {
                Paper paper = at(x);
                if (paper != null && paper.about == about) {
                    return true;
                }
            }
            return false;
        }

        boolean hasSign(int party, Agreement about) {
            for (int x = 0; x < length; x++) {
                Paper paper = at(x);
                if (paper != null && paper.kind == SIGN && paper.party == party && paper.about == about) {
                    return true;
                }
            }
            return false;
        }

        /** The MEMBERSHIP with which the PARTY BELONGS, or null. */
        Paper belonging(int party, Agreement about) {
            for (int x = length - 1; x >= 0; x--) {
                Paper paper = at(x);
                if (paper != null && paper.party == party && paper.about == about
                    && paper.isMembership() && paper.endedBy == null) {
                    return paper;
                }
            }
            return null;
        }

        /** The last DAY up to this one on which a PAPER about the AGREEMENT has its EFFECT; 0 if there is none. */
        int latestEffect(Agreement about, int day) {
            int latest = 0;
            for (int x = 0; x < length; x++) {
                Paper paper = at(x);
                if (paper != null && paper.about == about && paper.effect <= day && paper.effect > latest) {
                    latest = paper.effect;
                }
            }
            return latest;
        }

        /** The i-th PAPER that a PARTY HAS by this MEMBERSHIP, which may be null. */
        Paper nthOfMember(Paper membership, int d, int k, int i) {
            int left = i;
            for (int x = 0; x < length && left >= 0; x++) {
                Paper paper = at(x);
                if (paper != null && paper.stands(d, k) && paper.isHeldBy(membership, k)) {
                    if (left == 0) {
                        return paper;
                    }
                    left--;
                }
            }
            return null;
        }
    }

    /** Who IS A PARTY to one AGREEMENT on a DAY, as known on another: each with its MEMBERSHIP. */
    private static final class Roll {
        final Paper[] memberships;
        int length;

        Roll() {
            memberships = new Paper[MAX_PARTIES];
        }

        void fill(Register register, Agreement about, int d, int k) {
            length = 0;
            for (int p = 0; p < memberships.length; p++) {
                memberships[p] = null;
            }
            for (int x = 0; x < register.length; x++) {
                Paper paper = register.at(x);
                if (paper != null && paper.about == about && paper.isMembership() && paper.stands(d, k)) {
                    enter(paper);
                }
            }
        }

        private void enter(Paper membership) {
            int p = membership.party;
            if (p >= 0 && p < memberships.length) {
                memberships[p] = membership;
                length++;
            }
        }

        Paper at(int p) {
            return p >= 0 && p < memberships.length ? memberships[p] : null;
        }
    }

    /** One of two PARTIES, on a DAY, as known on another: which PAPERS it HAS, by their numbers. */
    private static final class Side {
        final boolean[] had;
        Paper membership;

        Side() {
            had = new boolean[MAX_PAPERS];
        }

        void fill(Register register, Paper membership, int d, int k) {
            this.membership = membership;
            for (int x = 0; x < register.length && x < had.length; x++) {
                Paper paper = register.at(x);
                had[x] = paper != null && paper.stands(d, k) && paper.isHeldBy(membership, k);
            }
        }

        boolean hasPaper(Paper paper) {
            return paper != null && paper.number >= 0 && paper.number < had.length && had[paper.number];
        }

        boolean hasReserve(Paper paper, int a) {
            return paper.kind == RESERVE && paper.article == a && hasPaper(paper);
        }

        /** The OBJECT or CONSENT to the PAPER with the least number, or null; the chain goes down in numbers. */
        Paper leastAnswer(Paper named, boolean mild) {
            Paper least = null;
            for (Paper answer = named.latestAnswer; answer != null; answer = answer.earlierAnswer) {
                if (answer.marked == mild && hasPaper(answer)) {
                    least = answer;
                }
            }
            return least;
        }
    }

    /** By which WORDS two PARTIES are bound to one another, and WHY: room for one ANSWER, used again for the next. */
    private static final class Bond {
        final Roll roll;
        final Side one;
        final Side other;
        final boolean[] cited;
        int answer;
        int words;
        int needed;
        Paper objection;
        Paper reserve;
        Paper change;
        Paper consentOfOne;
        Paper consentOfOther;

        Bond() {
            roll = new Roll();
            one = new Side();
            other = new Side();
            cited = new boolean[MAX_PAPERS];
        }

        void settle(Register register, int p, int q, Agreement about, int a, int d, int k) {
            forget();
            roll.fill(register, about, d, k);
            needed = about.needed;
            if (roll.at(p) == null || roll.at(q) == null || roll.length < needed) {
                return;
            }
            one.fill(register, roll.at(p), d, k);
            other.fill(register, roll.at(q), d, k);
            findStrongObjection(register);
            if (objection != null) {
                reserve = objection.names;
                return;
            }
            findReserve(register, a);
            if (reserve != null) {
                settleReserve();
                return;
            }
            findChange(register, about, a, k);
            answer = change == null ? BOUND : CHANGED;
            words = change == null ? about.wordsOf(a) : change.words;
        }

        private void forget() {
            answer = NOT_BOUND;
            words = 0;
            objection = null;
            reserve = null;
            change = null;
            consentOfOne = null;
            consentOfOther = null;
        }

        private void findStrongObjection(Register register) {
            for (int x = 0; x < register.length && objection == null; x++) {
                Paper paper = register.at(x);
                if (paper != null && paper.kind == OBJECT && !paper.marked && dividesThem(paper)) {
                    objection = paper;
                }
            }
        }

        private boolean dividesThem(Paper paper) {
            return one.hasPaper(paper) && other.hasPaper(paper.names)
                || other.hasPaper(paper) && one.hasPaper(paper.names);
        }

        private void findReserve(Register register, int a) {
            for (int x = register.length - 1; x >= 0 && reserve == null; x--) {
                Paper paper = register.at(x);
                if (paper != null && (one.hasReserve(paper, a) || other.hasReserve(paper, a))) {
                    reserve = paper;
                }
            }
        }

        private void settleReserve() {
            if (reserve.words != 0) {
                Side opponent = one.hasPaper(reserve) ? other : one;
                objection = opponent.leastAnswer(reserve, true);
            }
            boolean leftOut = reserve.words == 0 || objection != null;
            answer = leftOut ? LEFT_OUT : RESERVED;
            words = leftOut ? 0 : reserve.words;
        }

        private void findChange(Register register, Agreement about, int a, int k) {
            for (int x = register.length - 1; x >= 0 && change == null; x--) {
                Paper paper = register.at(x);
                if (paper != null && paper.kind == CHANGE && paper.about == about
                    && paper.article == a && paper.lodged <= k) {
                    takeChange(paper);
                }
            }
        }

        private void takeChange(Paper paper) {
            Paper ofOne = one.leastAnswer(paper, false);
            Paper ofOther = other.leastAnswer(paper, false);
            if (ofOne != null && ofOther != null) {
                change = paper;
                consentOfOne = ofOne;
                consentOfOther = ofOther;
            }
        }

        /** The number of the i-th PAPER of WHY, or NONE. */
        int reason(Register register, int i) {
            for (int x = 0; x < cited.length; x++) {
                cited[x] = false;
            }
            if (answer == NOT_BOUND && objection == null) {
                return NONE;
            }
            cite(one.membership);
            cite(other.membership);
            cite(objection);
            cite(reserve);
            cite(change);
            cite(consentOfOne);
            cite(consentOfOther);
            if (answer != NOT_BOUND) {
                citeNeeded();
            }
            citeSources(register);
            return nthCited(i);
        }

        private void cite(Paper paper) {
            if (paper != null && paper.number >= 0 && paper.number < cited.length) {
                cited[paper.number] = true;
            }
        }

        private void citeNeeded() {
            int left = needed;
            for (int p = 0; p < MAX_PARTIES && left > 0; p++) {
                Paper membership = roll.at(p);
                if (membership != null) {
                    cite(membership);
                    left--;
                }
            }
        }

        /** Once downwards is enough: both the one named and the one that a PAPER is OF were lodged before it. */
        private void citeSources(Register register) {
            for (int x = cited.length - 1; x >= 0; x--) {
                Paper paper = cited[x] ? register.at(x) : null;
                if (paper != null) {
                    cite(paper.of);
                    cite(paper.kind == FOLLOW ? paper.names : null);
                }
            }
        }

        private int nthCited(int i) {
            int left = i;
            for (int x = 0; x < cited.length && left >= 0; x++) {
                if (cited[x]) {
                    if (left == 0) {
                        return x;
                    }
                    left--;
                }
            }
            return NONE;
        }
    }
}
