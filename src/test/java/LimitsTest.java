import java.util.function.LongUnaryOperator;

/**
 * Terms 1 and 4, and of every promise each number that it is given: the least and the greatest that are allowed and
 * those beside them are answered, the one just below and the one just above are refused, and change nothing.
 */
public final class LimitsTest {
    private static final int NONE = TreatyHouse.NONE;
    private static final Check check = new Check();

    private interface OfNumber {
        long on(TreatyHouse house, int number);
    }

    public static void main(String[] args) {
        emptyObject();
        howMany();
        agreementNumbers();
        articleNumbers();
        clockNumbers();
        signNumbers();
        ratifyNumbers();
        joinNumbers();
        reserveNumbers();
        changeNumbers();
        objectNumbers();
        withdrawNumbers();
        consentNumbers();
        followNumbers();
        betweenNumbers();
        whyNumbers();
        firstNumbers();
        memberNumbers();
        hasNumbers();
        paperNumbers();
        annexNumbers();
        tearAndSizeNumbers();
        writeAndReadNumbers();
        copyNumbers();
        countNumbers();
        fewParties();
        check.end();
    }

    /** From first to last the calls are answered as told; outside they are refused, and change nothing. */
    private static void range(String name, Script script, int first, int last, LongUnaryOperator inside, long refusal,
            OfNumber call) {
        int[] within = {first, Math.min(first + 1, last), Math.max(last - 1, first), last};
        for (int number : within) {
            script.due(name + " " + number, inside.applyAsLong(number), x -> call.on(x, number));
        }
        int[] beyond = {first - 1, last + 1, Integer.MIN_VALUE, Integer.MAX_VALUE};
        for (int number : beyond) {
            script.refused(name + " " + number, refusal, x -> call.on(x, number));
        }
    }

    private static LongUnaryOperator always(long answer) {
        return number -> answer;
    }

    /** 30 PARTIES and 10 AGREEMENTS of 20 ARTICLES, without WAIT: 40 calls. */
    private static Script full() {
        Script script = new Script(check).parties(30);
        for (int g = 0; g < 10; g++) {
            script.agreement(g, 20, 1, 0, 1000);
        }
        return script;
    }

    /** All PARTIES join AGREEMENT 0 (PAPERS 0 to 29), PARTIES 0 and 15 all others (30 to 47). */
    private static Script joined() {
        Script script = full();
        for (int p = 0; p < 30; p++) {
            script.join(p, p, 0);
        }
        for (int g = 1; g < 10; g++) {
            script.join(28 + 2 * g, 0, g).join(29 + 2 * g, 15, g);
        }
        return script;
    }

    private static void emptyObject() {
        Script none = new Script(check);
        none.refused("4: of a new object", NONE, x -> x.article(0, 0, 1));
        none.refused("5: of a new object, below 0", 0, x -> Script.of(x.clock(-1)));
        none.refused("5: of a new object, the CLOCK's DAY", 1, x -> Script.of(x.clock(0)));
        none.refused("6: of a new object", -2, x -> x.sign(0, 0));
        none.refused("7: of a new object", -2, x -> x.ratify(0, 0));
        none.refused("8: of a new object", -2, x -> x.join(0, 0));
        none.refused("9: of a new object", -2, x -> x.reserve(0, 0, 0, 0));
        none.refused("10: of a new object", -2, x -> x.object(0, 0, true));
        none.refused("11: of a new object", -2, x -> x.withdraw(0, 0));
        none.refused("12: of a new object", -2, x -> x.change(0, 0, 0, 1));
        none.refused("13: of a new object", -2, x -> x.consent(0, 0));
        none.refused("14: of a new object", -2, x -> x.follow(0, 1, 0, true));
        none.refused("16: of a new object", NONE, x -> x.undo());
        none.refused("17: of a new object", NONE, x -> x.between(0, 1, 0, 0, 0, 0));
        none.refused("18: of a new object", NONE, x -> x.words(0, 1, 0, 0, 0, 0));
        none.refused("19: of a new object", NONE, x -> x.why(0, 1, 0, 0, 0, 0, 0));
        none.refused("20: of a new object", NONE, x -> x.first(0, 1, 0, 0));
        none.refused("21: of a new object", NONE, x -> x.member(0, 0, 0, 0));
        none.refused("22: of a new object", NONE, x -> x.members(0, 0, 0));
        none.refused("23: of a new object", NONE, x -> x.since(0));
        none.refused("24: of a new object", NONE, x -> x.has(0, 0, 0, 0, 0));
        none.refused("25: of a new object", NONE, x -> x.paper(0, 0));
        none.refused("26: of a new object", 0, x -> x.noted(0));
        none.refused("27: of a new object", -2, x -> x.annex(0, 0, 0));
        none.refused("28: of a new object", 0, x -> Script.of(x.tear(0, 0)));
        none.refused("29: of a new object", -2, x -> x.write(0, 0, 0, 1));
        none.refused("30: of a new object", 0, x -> x.read(0, 0, 0));
        none.refused("31: of a new object", -2, x -> x.size(0, 0));
        none.refused("32: of a new object", -2, x -> x.copy(0, 0, 0, 0, 0, 0, 0));
        for (int what = 0; what <= 3; what++) {
            int number = what;
            none.due("1: count(" + what + ") of a new object", 0, x -> x.count(number));
        }
        none.refused("33: of a new object", NONE, x -> x.count(10));
        none.due("2: the first", 0, x -> x.party());
        none.due("3: the first", 0, x -> x.agreement(1, 1, 0, 0));
        none.due("15: the first", 0, x -> x.note(1));
        none.due("5: the last DAY at once", 1, x -> Script.of(x.clock(73000)));
    }

    private static void howMany() {
        Script parties = new Script(check).parties(28);
        parties.due("2: the 29th", 28, x -> x.party());
        parties.then("party()", 28, x -> x.party());
        parties.due("2: the 30th", 29, x -> x.party());
        parties.then("party()", 29, x -> x.party());
        parties.refused("2: the 31st", NONE, x -> x.party());
        Script agreements = new Script(check);
        for (int g = 0; g < 8; g++) {
            agreements.agreement(g, 1, 1, 0, 0);
        }
        agreements.due("3: the ninth", 8, x -> x.agreement(1, 1, 0, 0));
        agreements.agreement(8, 1, 1, 0, 0);
        agreements.due("3: the tenth", 9, x -> x.agreement(1, 1, 0, 0));
        agreements.refused("3: the tenth, a number not as told", NONE, x -> x.agreement(0, 1, 0, 0));
        agreements.agreement(9, 1, 1, 0, 0);
        agreements.refused("3: the eleventh", NONE, x -> x.agreement(1, 1, 0, 0));
        agreements.refused("3: the eleventh, a number not as told", NONE, x -> x.agreement(0, 1, 0, 0));
        Script papers = new Script(check).parties(1).agreement(0, 1, 1, 0, 0).notes(0, 397);
        papers.due("15: the 399th", 398, x -> x.note(5));
        papers.notes(398, 398);
        papers.due("15: the 400th", 399, x -> x.note(5));
        papers.due("8: the 400th", 399, x -> x.join(0, 0));
        papers.notes(399, 399);
        papers.refused("15: the 401st", -8, x -> x.note(5));
        papers.refused("8: the 401st", -8, x -> x.join(0, 0));
        papers.undo(399);
        papers.due("15: room again", 399, x -> x.note(5));
    }

    private static void agreementNumbers() {
        Script none = new Script(check);
        range("3: ARTICLES", none, 1, 20, always(0), NONE, (x, n) -> x.agreement(n, 1, 0, 0));
        range("3: NEEDED", none, 1, 10, always(0), NONE, (x, n) -> x.agreement(1, n, 0, 0));
        range("3: WAIT", none, 0, 1000, always(0), NONE, (x, n) -> x.agreement(1, 1, n, 0));
        range("3: SPAN", none, 0, 1000, always(0), NONE, (x, n) -> x.agreement(1, 1, 0, n));
        Script one = new Script(check).agreement(0, 20, 10, 1000, 1000);
        range("3: ARTICLES behind another", one, 1, 20, always(1), NONE, (x, n) -> x.agreement(n, 1, 0, 0));
        for (int what = 10; what <= 14; what++) {
            int number = what;
            long[] least = {1, 1, 0, 0, 0};
            long[] greatest = {20, 10, 1000, 1000, 0};
            new Script(check).agreement(0, 1, 1, 0, 0)
                .due("33: the least, count(" + what + ")", least[what - 10], x -> x.count(number));
            one.due("33: the greatest, count(" + what + ")", greatest[what - 10], x -> x.count(number));
        }
    }

    private static void articleNumbers() {
        Script script = full();
        range("4: AGREEMENT", script, 0, 9, always(4), NONE, (x, g) -> x.article(g, 3, 9));
        range("4: ARTICLE, with its WORDS at first", script, 0, 19, a -> a + 1, NONE, (x, a) -> x.article(9, a, 9));
        range("4: WORDS", script, 1, 1000000, always(1), NONE, (x, words) -> x.article(0, 0, words));
        script.then("article(0, 0, 1000000)", 1, x -> x.article(0, 0, 1000000));
        range("4: the WORDS that it has", script, 1, 1000000, always(1000000), NONE, (x, w) -> x.article(0, 0, w));
        Script one = new Script(check).agreement(0, 1, 1, 0, 0);
        range("4: the AGREEMENT alone", one, 0, 0, always(1), NONE, (x, g) -> x.article(g, 0, 9));
        range("4: the ARTICLE alone", one, 0, 0, always(1), NONE, (x, a) -> x.article(0, a, 9));
    }

    private static void clockNumbers() {
        Script script = new Script(check);
        range("5: at first", script, 0, 73000, always(1), 0, (x, day) -> Script.of(x.clock(day)));
        script.clock(500);
        range("5: on 500", script, 500, 73000, always(1), 0, (x, day) -> Script.of(x.clock(day)));
        script.clock(72999);
        range("5: on 72999", script, 72999, 73000, always(1), 0, (x, day) -> Script.of(x.clock(day)));
        script.clock(73000);
        range("5: on the last DAY", script, 73000, 73000, always(1), 0, (x, day) -> Script.of(x.clock(day)));
        range("33: the CLOCK", new Script(check), 0, 73000, day -> day, 0, (x, day) -> {
            x.clock(day);
            return x.count(3);
        });
    }

    private static void signNumbers() {
        Script script = full();
        range("6: PARTY", script, 0, 29, always(0), -2, (x, p) -> x.sign(p, 0));
        range("6: AGREEMENT", script, 0, 9, always(0), -2, (x, g) -> x.sign(0, g));
    }

    private static void ratifyNumbers() {
        Script script = full();
        for (int p = 0; p < 30; p++) {
            script.sign(p, p, 0);
        }
        for (int g = 1; g < 10; g++) {
            script.sign(29 + g, 0, g);
        }
        range("7: PARTY", script, 0, 29, always(39), -2, (x, p) -> x.ratify(p, 0));
        range("7: AGREEMENT", script, 0, 9, always(39), -2, (x, g) -> x.ratify(0, g));
    }

    private static void joinNumbers() {
        Script script = full();
        range("8: PARTY", script, 0, 29, always(0), -2, (x, p) -> x.join(p, 0));
        range("8: AGREEMENT", script, 0, 9, always(0), -2, (x, g) -> x.join(0, g));
    }

    private static void reserveNumbers() {
        Script script = joined();
        range("9: PARTY", script, 0, 29, always(48), -2, (x, p) -> x.reserve(p, 0, 0, 5));
        range("9: AGREEMENT", script, 0, 9, always(48), -2, (x, g) -> x.reserve(0, g, 0, 5));
        range("9: ARTICLE", script, 0, 19, always(48), -2, (x, a) -> x.reserve(0, 0, a, 5));
        range("9: WORDS", script, 0, 1000000, always(48), -2, (x, words) -> x.reserve(0, 0, 0, words));
        range("25: a RESERVE's ARTICLE", script, 0, 19, a -> a, NONE, (x, a) -> {
            x.reserve(0, 0, a, 5);
            return x.paper(48, 7);
        });
        range("25: a RESERVE's WORDS", script, 0, 1000000, words -> words, NONE, (x, words) -> {
            x.reserve(0, 0, 0, words);
            return x.paper(48, 8);
        });
    }

    private static void changeNumbers() {
        Script script = joined();
        range("12: PARTY", script, 0, 29, always(48), -2, (x, p) -> x.change(p, 0, 0, 5));
        range("12: AGREEMENT", script, 0, 9, always(48), -2, (x, g) -> x.change(0, g, 0, 5));
        range("12: ARTICLE", script, 0, 19, always(48), -2, (x, a) -> x.change(0, 0, a, 5));
        range("12: WORDS", script, 1, 1000000, always(48), -2, (x, words) -> x.change(0, 0, 0, words));
        range("25: a CHANGE's WORDS", script, 1, 1000000, words -> words, NONE, (x, words) -> {
            x.change(0, 0, 0, words);
            return x.paper(48, 8);
        });
    }

    private static void objectNumbers() {
        Script script = joined().reserve(48, 15, 0, 0, 5).reserve(49, 15, 0, 19, 5).reserve(50, 15, 9, 19, 5);
        range("10: the RESERVE", script, 48, 50, always(51), -2, (x, r) -> x.object(0, r, false));
        script.refused("10: PAPER 0 is none", -2, x -> x.object(0, 0, false));
        script.refused("10: PAPER -1", -2, x -> x.object(0, -1, false));
        script.refused("10: PAPER 399", -2, x -> x.object(0, 399, false));
        script.refused("10: PAPER 400", -2, x -> x.object(0, 400, false));
        Script lower = full();
        for (int p = 0; p < 30; p++) {
            lower.join(p, p, 0);
        }
        Script upper = lower.fork().reserve(30, 0, 0, 0, 5);
        lower.reserve(30, 29, 0, 0, 5);
        int[] inside = {0, 1, 28};
        for (int q : inside) {
            lower.due("10: PARTY " + q, 31, x -> x.object(q, 30, true));
            upper.due("10: PARTY " + (29 - q), 31, x -> x.object(29 - q, 30, true));
        }
        int[] outside = {-1, 30, Integer.MIN_VALUE, Integer.MAX_VALUE};
        for (int q : outside) {
            lower.refused("10: PARTY " + q, -2, x -> x.object(q, 30, true));
        }
    }

    private static void withdrawNumbers() {
        Script script = full();
        for (int p = 0; p < 30; p++) {
            script.join(p, p, 0);
        }
        for (int p = 0; p < 30; p++) {
            int party = p;
            script.due("11: PARTY " + p + " and its PAPER", 30, x -> x.withdraw(party, party));
        }
        int[] outside = {-1, 30, Integer.MIN_VALUE, Integer.MAX_VALUE};
        for (int number : outside) {
            script.refused("11: PARTY " + number, -2, x -> x.withdraw(number, 0));
            script.refused("11: PAPER " + number, -2, x -> x.withdraw(0, number));
            script.refused("11: PARTY and PAPER " + number, -2, x -> x.withdraw(number, number));
        }
        script.refused("11: PAPER 399", -2, x -> x.withdraw(0, 399));
        script.refused("11: PAPER 400", -2, x -> x.withdraw(0, 400));
        script.reserve(30, 0, 0, 19, 7);
        script.due("11: the latest PAPER", 31, x -> x.withdraw(0, 30));
        script.refused("11: the one behind it", -2, x -> x.withdraw(0, 31));
    }

    private static void consentNumbers() {
        Script script = joined().change(48, 15, 0, 0, 5).change(49, 15, 0, 19, 5).change(50, 15, 9, 19, 5);
        range("13: the CHANGE", script, 48, 50, always(51), -2, (x, c) -> x.consent(0, c));
        range("13: PARTY", script, 0, 29, always(51), -2, (x, p) -> x.consent(p, 48));
        script.refused("13: PAPER 0 is none", -2, x -> x.consent(0, 0));
        script.refused("13: PAPER -1", -2, x -> x.consent(0, -1));
        script.refused("13: PAPER 399", -2, x -> x.consent(0, 399));
        script.refused("13: PAPER 400", -2, x -> x.consent(0, 400));
    }

    private static void followNumbers() {
        Script leader = full();
        for (int g = 0; g < 10; g++) {
            leader.join(g, 15, g);
        }
        range("14: PARTY p", leader, 0, 29, always(10), -2, (x, p) -> x.follow(p, 15, 0, true));
        range("14: AGREEMENT", leader, 0, 9, always(10), -2, (x, g) -> x.follow(0, 15, g, true));
        Script leaders = full();
        for (int p = 0; p < 30; p++) {
            int before = p < 15 ? p : p - 1;
            if (p != 15) {
                leaders.join(before, p, 0);
            }
        }
        range("14: PARTY q", leaders, 0, 29, always(29), -2, (x, q) -> x.follow(15, q, 0, false));
    }

    private static void betweenNumbers() {
        Script script = joined();
        range("17: PARTY p", script, 0, 29, p -> p == 15 ? NONE : 1, NONE, (x, p) -> x.between(p, 15, 0, 0, 0, 0));
        range("17: PARTY q", script, 0, 29, always(1), NONE, (x, q) -> x.between(15, q, 0, 0, 0, 0));
        range("17: AGREEMENT", script, 0, 9, always(1), NONE, (x, g) -> x.between(0, 15, g, 0, 0, 0));
        range("17: ARTICLE", script, 0, 19, always(1), NONE, (x, a) -> x.between(0, 15, 0, a, 0, 0));
        range("17: DAY d", script, 0, 73000, always(1), NONE, (x, d) -> x.between(0, 15, 0, 0, d, 0));
        range("17: DAY k", script, 0, 73000, always(1), NONE, (x, k) -> x.between(0, 15, 0, 0, 0, k));
        range("18: PARTY p", script, 0, 29, always(3), NONE, (x, p) -> x.words(p, 15, 0, 2, 0, 0));
        range("18: PARTY q", script, 0, 29, always(3), NONE, (x, q) -> x.words(15, q, 0, 2, 0, 0));
        range("18: AGREEMENT", script, 0, 9, always(3), NONE, (x, g) -> x.words(0, 15, g, 2, 0, 0));
        range("18: ARTICLE", script, 0, 19, a -> a + 1, NONE, (x, a) -> x.words(0, 15, 0, a, 0, 0));
        range("18: DAY d", script, 0, 73000, always(3), NONE, (x, d) -> x.words(0, 15, 0, 2, d, 0));
        range("18: DAY k", script, 0, 73000, always(3), NONE, (x, k) -> x.words(0, 15, 0, 2, 0, k));
        int[] parties = {0, 1, 15, 28, 29};
        for (int p : parties) {
            script.refused("17: both are " + p, NONE, x -> x.between(p, p, 0, 0, 0, 0));
            script.refused("18: both are " + p, NONE, x -> x.words(p, p, 0, 0, 0, 0));
            script.refused("19: both are " + p, NONE, x -> x.why(p, p, 0, 0, 0, 0, 0));
            script.refused("20: both are " + p, NONE, x -> x.first(p, p, 0, 0));
        }
        for (int a = 0; a < 20; a++) {
            int article = a;
            script.due("18: of ARTICLE " + a + " a + 1 at first", a + 1, x -> x.words(0, 15, 9, article, 0, 0));
        }
    }

    private static void whyNumbers() {
        Script script = joined();
        range("19: PARTY p", script, 0, 29, always(0), NONE, (x, p) -> x.why(p, 15, 0, 0, 0, 0, 0));
        range("19: PARTY q", script, 0, 29, always(0), NONE, (x, q) -> x.why(15, q, 0, 0, 0, 0, 0));
        range("19: AGREEMENT", script, 0, 9, g -> g == 0 ? 0 : 28 + 2 * g, NONE,
            (x, g) -> x.why(0, 15, g, 0, 0, 0, 0));
        range("19: ARTICLE", script, 0, 19, always(15), NONE, (x, a) -> x.why(0, 15, 0, a, 0, 0, 1));
        range("19: DAY d", script, 0, 73000, always(15), NONE, (x, d) -> x.why(0, 15, 0, 0, d, 0, 1));
        range("19: DAY k", script, 0, 73000, always(15), NONE, (x, k) -> x.why(0, 15, 0, 0, 0, k, 1));
        range("19: i, of two", script, 0, 1, i -> i == 0 ? 0 : 15, NONE, (x, i) -> x.why(0, 15, 0, 0, 0, 0, i));
        range("19: i, of three", script, 0, 2, i -> i == 0 ? 0 : 13 + i, NONE,
            (x, i) -> x.why(14, 15, 0, 0, 0, 0, i));
        script.refused("19: i 399", NONE, x -> x.why(14, 15, 0, 0, 0, 0, 399));
        script.refused("19: i 400", NONE, x -> x.why(14, 15, 0, 0, 0, 0, 400));
        Script unbound = full();
        unbound.refused("19: of the first clause of 0 none", NONE, x -> x.why(0, 15, 0, 0, 0, 0, 0));
        unbound.due("17: it is the first clause of 0", 0, x -> x.between(0, 15, 0, 0, 0, 0));
    }

    private static void firstNumbers() {
        Script script = joined();
        range("20: PARTY p", script, 0, 29, always(0), NONE, (x, p) -> x.first(p, 15, 0, 0));
        range("20: PARTY q", script, 0, 29, always(0), NONE, (x, q) -> x.first(15, q, 0, 0));
        range("20: AGREEMENT", script, 0, 9, always(0), NONE, (x, g) -> x.first(0, 15, g, 0));
        range("20: ARTICLE", script, 0, 19, always(0), NONE, (x, a) -> x.first(0, 15, 0, a));
        range("23: AGREEMENT", script, 0, 9, always(0), NONE, (x, g) -> x.since(g));
    }

    private static void memberNumbers() {
        Script script = joined();
        range("21: PARTY", script, 0, 29, p -> p, NONE, (x, p) -> x.member(p, 0, 0, 0));
        range("21: AGREEMENT", script, 0, 9, g -> g == 0 ? 0 : 28 + 2 * g, NONE, (x, g) -> x.member(0, g, 0, 0));
        range("21: DAY d", script, 0, 73000, always(29), NONE, (x, d) -> x.member(29, 0, d, 0));
        range("21: DAY k", script, 0, 73000, always(29), NONE, (x, k) -> x.member(29, 0, 0, k));
        range("22: AGREEMENT", script, 0, 9, g -> g == 0 ? 30 : 2, NONE, (x, g) -> x.members(g, 0, 0));
        range("22: DAY d", script, 0, 73000, always(30), NONE, (x, d) -> x.members(0, d, 0));
        range("22: DAY k", script, 0, 73000, always(30), NONE, (x, k) -> x.members(0, 0, k));
        full().refused("21: it is not", NONE, x -> x.member(0, 0, 0, 0));
        full().due("22: there are none", 0, x -> x.members(0, 0, 0));
    }

    private static void hasNumbers() {
        Script script = full();
        for (int p = 0; p < 30; p++) {
            script.join(2 * p, p, 0).reserve(2 * p + 1, p, 0, 0, 5);
        }
        for (int g = 1; g < 10; g++) {
            script.join(58 + 2 * g, 0, g).reserve(59 + 2 * g, 0, g, 0, 5);
        }
        script.reserve(78, 0, 0, 1, 5).reserve(79, 0, 0, 2, 5);
        range("24: PARTY", script, 0, 29, p -> 2 * p + 1, NONE, (x, p) -> x.has(p, 0, 0, 0, 0));
        range("24: AGREEMENT", script, 0, 9, g -> g == 0 ? 1 : 59 + 2 * g, NONE, (x, g) -> x.has(0, g, 0, 0, 0));
        range("24: DAY d", script, 0, 73000, always(1), NONE, (x, d) -> x.has(0, 0, d, 0, 0));
        range("24: DAY k", script, 0, 73000, always(1), NONE, (x, k) -> x.has(0, 0, 0, k, 0));
        range("24: i", script, 0, 2, i -> i == 0 ? 1 : 77 + i, NONE, (x, i) -> x.has(0, 0, 0, 0, i));
        joined().refused("24: it HAS none", NONE, x -> x.has(0, 0, 0, 0, 0));
        full().refused("24: it is no PARTY", NONE, x -> x.has(0, 0, 0, 0, 0));
    }

    private static void paperNumbers() {
        Script script = new Script(check).parties(1).agreement(0, 1, 1, 0, 0).notes(0, 4);
        range("25: PAPER", script, 0, 4, always(9), NONE, (x, number) -> x.paper(number, 0));
        range("26: PAPER", script, 0, 4, number -> number, 0, (x, number) -> x.noted(number));
        script.sign(5, 0, 0);
        long[] sign = {0, 0, 0, 0, 0, NONE, NONE, NONE, NONE, 0};
        range("25: what", script, 0, 9, what -> sign[(int) what], NONE, (x, what) -> x.paper(5, what));
        Script last = new Script(check).notes(0, 399);
        range("25: of 400", last, 0, 399, always(9), NONE, (x, number) -> x.paper(number, 0));
        range("26: of 400", last, 0, 399, number -> number, 0, (x, number) -> x.noted(number));
    }

    private static void annexNumbers() {
        Script script = full();
        range("27: AGREEMENT", script, 0, 9, always(0), -2, (x, g) -> x.annex(g, 0, 1));
        range("27: WIDTH", script, 0, 3, always(0), -2, (x, width) -> x.annex(0, width, 1));
        for (int width = 0; width < 4; width++) {
            int wide = width;
            int[] inside = {0, 1, 99, 100};
            for (int n : inside) {
                script.due("27: " + n + " numbers", 0, x -> x.annex(9, wide, n));
                script.fork().annex(0, 9, wide, n).due("31: " + n + " numbers", n, x -> x.size(9, 0));
            }
            int[] above = {101, 102, Integer.MAX_VALUE};
            for (int n : above) {
                script.refused("27: " + n + " numbers", -2, x -> x.annex(9, wide, n));
            }
            int[] below = {-1, -2, Integer.MIN_VALUE};
            for (int n : below) {
                script.refused("27: " + n + " numbers", -3, x -> x.annex(9, wide, n));
            }
        }
        Script many = new Script(check).agreement(0, 1, 1, 0, 0).agreement(1, 1, 1, 0, 0);
        for (int annex = 0; annex < 7; annex++) {
            many.annex(annex, 0, 0, 1);
        }
        many.due("27: the eighth", 7, x -> x.annex(0, 3, 100));
        many.annex(7, 0, 3, 100);
        many.refused("27: the ninth", -8, x -> x.annex(0, 0, 1));
        many.tear(0, 0).tear(0, 7);
        many.refused("27: the ninth, though some are MISSING", -8, x -> x.annex(0, 0, 1));
        many.due("27: of another AGREEMENT", 0, x -> x.annex(1, 0, 1));
        many.due("33: MISSING ones, too", 8, x -> x.count(14));
        for (int i = 0; i < 100; i++) {
            int at = i;
            script.fork().annex(0, 0, 3, 100).due("27: number " + i + " at first", 0, x -> x.read(0, 0, at));
        }
    }

    /** Of AGREEMENTS 0 and 9 eight ANNEXES each, of 1 to 8 numbers; of the others the first alone, of one. */
    private static Script withAnnexes() {
        Script script = full();
        for (int g = 0; g < 10; g++) {
            for (int annex = 0; annex < (g % 9 == 0 ? 8 : 1); annex++) {
                script.annex(annex, g, annex % 4, annex + 1);
            }
        }
        return script;
    }

    private static void tearAndSizeNumbers() {
        Script script = withAnnexes();
        range("28: AGREEMENT", script, 0, 9, always(1), 0, (x, g) -> Script.of(x.tear(g, 0)));
        range("28: ANNEX", script, 0, 7, always(1), 0, (x, annex) -> Script.of(x.tear(9, annex)));
        range("28: the ANNEX alone", script, 0, 0, always(1), 0, (x, annex) -> Script.of(x.tear(8, annex)));
        range("31: AGREEMENT", script, 0, 9, always(1), -2, (x, g) -> x.size(g, 0));
        range("31: ANNEX", script, 0, 7, annex -> annex + 1, -2, (x, annex) -> x.size(9, annex));
        range("31: the ANNEX alone", script, 0, 0, always(1), -2, (x, annex) -> x.size(8, annex));
        script.tear(9, 7);
        range("28: what is not MISSING", script, 0, 6, always(1), 0, (x, annex) -> Script.of(x.tear(9, annex)));
        script.refused("31: it is MISSING", -5, x -> x.size(9, 7));
        script.due("31: the one ahead is not", 7, x -> x.size(9, 6));
        full().refused("31: none at all", -2, x -> x.size(0, 0));
        full().refused("28: none at all", 0, x -> Script.of(x.tear(0, 0)));
    }

    private static void writeAndReadNumbers() {
        Script script = withAnnexes();
        range("29: AGREEMENT", script, 0, 9, always(0), -2, (x, g) -> x.write(g, 0, 0, 5));
        range("29: ANNEX", script, 0, 7, always(0), -2, (x, annex) -> x.write(9, annex, 0, 5));
        range("29: number", script, 0, 7, always(0), -6, (x, i) -> x.write(9, 7, i, 5));
        range("29: the number alone", script, 0, 0, always(0), -6, (x, i) -> x.write(9, 0, i, 5));
        Script written = full().annex(0, 0, 3, 100).annex(1, 0, 3, 0);
        for (int i = 0; i < 100; i++) {
            written.write(0, 0, i, 1000 + i);
        }
        range("30: number", written, 0, 99, i -> 1000 + i, 0, (x, i) -> x.read(0, 0, i));
        range("29: number of 100", written, 0, 99, always(0), -6, (x, i) -> x.write(0, 0, i, 5));
        written.refused("29: of none", -6, x -> x.write(0, 1, 0, 5));
        written.refused("30: of none", 0, x -> x.read(0, 1, 0));
        range("30: AGREEMENT", written, 0, 0, always(1007), 0, (x, g) -> x.read(g, 0, 7));
        range("30: ANNEX", written, 0, 0, always(1007), 0, (x, annex) -> x.read(0, annex, 7));
        cutNumbers();
    }

    private static void cutNumbers() {
        long[] greatest = {127, 32767, 2147483647L, Long.MAX_VALUE};
        for (int width = 0; width < 4; width++) {
            int wide = width;
            Script script = new Script(check).agreement(0, 1, 1, 0, 0).annex(0, 0, width, 3);
            long most = greatest[width];
            long least = -most - 1;
            long[][] due = {{most, most}, {most - 1, most - 1}, {most + 1, least}, {least, least}, {least + 1, least + 1},
                {least - 1, most}, {0, 0}, {1, 1}, {-1, -1}, {2 * most + 1, -1}, {2 * most + 2, 0}};
            for (long[] row : due) {
                script.due("29: " + row[0] + " cut to WIDTH " + wide, row[1], x -> {
                    x.write(0, 0, 1, row[0]);
                    return x.read(0, 0, 1);
                });
                script.due("29: the number ahead of it", 0, x -> {
                    x.write(0, 0, 1, row[0]);
                    return x.read(0, 0, 0);
                });
                script.due("29: the number behind it", 0, x -> {
                    x.write(0, 0, 1, row[0]);
                    return x.read(0, 0, 2);
                });
            }
        }
    }

    private static void copyNumbers() {
        Script script = full().annex(0, 0, 1, 5).annex(0, 9, 1, 3);
        for (int i = 0; i < 5; i++) {
            script.write(0, 0, i, i + 1);
        }
        range("32: i, of one", script, 0, 4, always(0), -6, (x, i) -> x.copy(0, 0, i, 9, 0, 0, 1));
        range("32: i, of none", script, 0, 5, always(0), -6, (x, i) -> x.copy(0, 0, i, 9, 0, 0, 0));
        range("32: i, of three", script, 0, 2, always(0), -6, (x, i) -> x.copy(0, 0, i, 9, 0, 0, 3));
        range("32: j, of one", script, 0, 2, always(0), -6, (x, j) -> x.copy(0, 0, 0, 9, 0, j, 1));
        range("32: j, of none", script, 0, 3, always(0), -6, (x, j) -> x.copy(0, 0, 0, 9, 0, j, 0));
        range("32: j, of two", script, 0, 1, always(0), -6, (x, j) -> x.copy(0, 0, 0, 9, 0, j, 2));
        range("32: n, bound by y", script, 0, 3, always(0), -6, (x, n) -> x.copy(0, 0, 0, 9, 0, 0, n));
        range("32: n, bound by x", script, 0, 1, always(0), -6, (x, n) -> x.copy(0, 0, 4, 9, 0, 0, n));
        range("32: n, onto itself", script, 0, 5, always(0), -6, (x, n) -> x.copy(0, 0, 0, 0, 0, 0, n));
        range("32: n, onto itself, upwards", script, 0, 4, always(0), -6, (x, n) -> x.copy(0, 0, 0, 0, 0, 1, n));
        range("32: g", script, 9, 9, always(0), -2, (x, g) -> x.copy(g, 0, 0, 0, 0, 0, 1));
        range("32: h", script, 9, 9, always(0), -2, (x, h) -> x.copy(0, 0, 0, h, 0, 0, 1));
        script.refused("32: g without ANNEXES", -2, x -> x.copy(1, 0, 0, 0, 0, 0, 1));
        script.refused("32: h without ANNEXES", -2, x -> x.copy(0, 0, 0, 1, 0, 0, 1));
        range("32: x", script, 0, 0, always(0), -2, (x, annex) -> x.copy(0, annex, 0, 9, 0, 0, 1));
        range("32: y", script, 0, 0, always(0), -2, (x, annex) -> x.copy(0, 0, 0, 9, annex, 0, 1));
        script.annex(1, 9, 1, 0);
        script.due("32: none from none", 0, x -> x.copy(9, 1, 0, 9, 1, 0, 0));
        script.refused("32: one from none", -6, x -> x.copy(9, 1, 0, 0, 0, 0, 1));
        script.refused("32: one to none", -6, x -> x.copy(0, 0, 0, 9, 1, 0, 1));
        script.refused("32: none changes nothing", 0, x -> x.copy(0, 0, 0, 9, 0, 3, 0));
        script.refused("32: onto the same place changes nothing", 0, x -> x.copy(0, 0, 1, 0, 0, 1, 4));
        asIfAllWereTakenFirst();
    }

    private static void asIfAllWereTakenFirst() {
        for (int i = 0; i <= 6; i++) {
            for (int j = 0; j <= 6; j++) {
                for (int n = 0; n <= 6 - Math.max(i, j); n++) {
                    TreatyHouse x = new TreatyHouse();
                    x.agreement(1, 1, 0, 0);
                    x.annex(0, 2, 6);
                    long[] due = new long[6];
                    for (int at = 0; at < 6; at++) {
                        x.write(0, 0, at, 70 + at);
                        due[at] = at >= j && at < j + n ? 70 + at - j + i : 70 + at;
                    }
                    String name = "32: " + n + " onto itself from " + i + " to " + j;
                    check.due(name, x.copy(0, 0, i, 0, 0, j, n), 0);
                    for (int at = 0; at < 6; at++) {
                        check.due(name + ": number " + at, x.read(0, 0, at), due[at]);
                    }
                }
            }
        }
    }

    private static void countNumbers() {
        for (int agreements = 0; agreements <= 10; agreements++) {
            Script script = new Script(check).parties(2);
            for (int g = 0; g < agreements; g++) {
                script.agreement(g, g + 1, g + 1, g + 100, g + 200).annex(0, g, 0, 1);
            }
            script.notes(0, 2).clock(9);
            long[] own = {2, agreements, 3, 9};
            for (int what = -20; what < 130; what++) {
                int number = what;
                int g = what / 10 - 1;
                long[] terms = {g + 1, g + 1, g + 100, g + 200, 1};
                boolean isOwn = what >= 0 && what < 4;
                boolean isTerm = what >= 10 && g < agreements && what % 10 < 5;
                long due = isOwn ? own[what] : isTerm ? terms[what % 10] : NONE;
                script.due("33: count(" + what + ") of " + agreements + " AGREEMENTS", due, x -> x.count(number));
            }
            int[] far = {Integer.MIN_VALUE, Integer.MIN_VALUE + 1, Integer.MAX_VALUE - 1, Integer.MAX_VALUE};
            for (int what : far) {
                script.refused("33: count(" + what + ")", NONE, x -> x.count(what));
            }
        }
    }

    /** Where there are fewer than can be, the first that is none is refused, though it may come yet. */
    private static void fewParties() {
        for (int n = 2; n <= 4; n++) {
            int last = n - 1;
            Script script = new Script(check).parties(n);
            for (int g = 0; g < n; g++) {
                script.agreement(g, n, 1, 0, 0);
            }
            range("6: PARTY of " + n, script, 0, last, always(0), -2, (x, p) -> x.sign(p, 0));
            range("6: AGREEMENT of " + n, script, 0, last, always(0), -2, (x, g) -> x.sign(0, g));
            range("8: PARTY of " + n, script, 0, last, always(0), -2, (x, p) -> x.join(p, 0));
            range("17: ARTICLE of " + n, script, 0, last, always(0), NONE, (x, a) -> x.between(0, 1, 0, a, 0, 0));
            range("17: AGREEMENT of " + n, script, 0, last, always(0), NONE, (x, g) -> x.between(0, 1, g, 0, 0, 0));
            range("22: AGREEMENT of " + n, script, 0, last, always(0), NONE, (x, g) -> x.members(g, 0, 0));
            range("27: AGREEMENT of " + n, script, 0, last, always(0), -2, (x, g) -> x.annex(g, 0, 0));
            range("4: AGREEMENT of " + n, script, 0, last, always(1), NONE, (x, g) -> x.article(g, 0, 7));
            range("4: ARTICLE of " + n, script, 0, last, a -> a + 1, NONE, (x, a) -> x.article(0, a, 7));
            script.join(0, 0, 0);
            range("9: ARTICLE of " + n, script, 0, last, always(1), -2, (x, a) -> x.reserve(0, 0, a, 7));
            range("12: ARTICLE of " + n, script, 0, last, always(1), -2, (x, a) -> x.change(0, 0, a, 7));
            range("14: PARTY p of " + n, script, 0, last, p -> p == 0 ? -4 : 1, -2, (x, p) -> x.follow(p, 0, 0, true));
        }
    }
}
