import java.util.function.Consumer;

/** The edges that promises 9 to 16 and the terms of UNDONE and of DRIFT name, a test for each sentence. */
public final class DoneEdgesTest {
    private static final int MIN = Sentences.MIN;
    private static final int MAX = Sentences.MAX;
    private static final int BAD = KnotLaw.BAD;
    private static final int NOT = KnotLaw.NOT;
    private static final int FULL = KnotLaw.FULL;
    private static final int NONE = KnotLaw.NONE;
    private static final Sentences S = new Sentences("DoneEdgesTest");

    public static void main(String[] args) {
        pullsAndCuts();
        weatherAndDays();
        drifts();
        takenBack();
        S.end();
    }

    private static void pullsAndCuts() {
        S.holds("Promise 9", "A PULL of f (0 .. 99): which are UNDONE by it (a set). BAD.", DoneEdgesTest::pullBad);
        S.holds("Promise 9", "which are UNDONE by it (a set)", DoneEdgesTest::pullOfNothing);
        S.holds("Promise 10", "CUT: which are TIED then (a set). BAD", DoneEdgesTest::cutBad);
        S.holds("Promise 10", "NOT: it is UNDONE.", DoneEdgesTest::cutNot);
        S.holds("Promise 11", "TIED again: which are TIED then (a set). BAD", DoneEdgesTest::tieBad);
        S.holds("Promise 11", "NOT: it is.", DoneEdgesTest::tieNot);
    }

    private static void weatherAndDays() {
        S.holds("Promise 12", "WET (1), DRY (0)", DoneEdgesTest::wetBad);
        S.holds("Promise 12", "NOT: it is so.", DoneEdgesTest::wetNot);
        S.holds("Promise 12", "how FIRM all are together then that are TIED", DoneEdgesTest::firmTogether);
        S.holds("Promise 13", "n DAYS (1 .. 99) go by", DoneEdgesTest::daysBad);
        S.holds("Promise 13", "one act: the DAY", DoneEdgesTest::daysAreOneAct);
        S.holds("Promise 13", "FULL: it would be above 9999.", DoneEdgesTest::daysFull);
    }

    private static void drifts() {
        S.holds("Promise 14", "A DRIFT of n DAYS (1 .. 40;", DoneEdgesTest::driftBad);
        S.holds("Promise 14", "each with its weather, PULL one act)", DoneEdgesTest::driftActs);
        S.holds("Promise 14", "which are TIED then (a set). BAD; FULL: likewise.", DoneEdgesTest::driftFull);
        S.holds("Promise 16", "THE DRAW becomes v: what it was. BAD: below 0.", DoneEdgesTest::seedBad);
        S.holds("3", "THE DRAW is a number of 31 bits (1 at first)", DoneEdgesTest::drawAtFirst);
        S.holds("3", "it becomes the lowest 31 bits of itself times 1103515245 and 12345 more", DoneEdgesTest::drawWraps);
        S.holds("3", "it is WET, if it by 65536, left over by 3, is 0, else DRY", DoneEdgesTest::weatherOfADraw);
        S.holds("3", "then comes a PULL of it by 128, left over by 30", DoneEdgesTest::pullOfADraw);
        S.holds("3", "then it is the next DAY", DoneEdgesTest::nextDayLast);
    }

    private static void takenBack() {
        S.holds("Promise 15", "The latest act is taken back: how many more may be.", DoneEdgesTest::howManyMore);
        S.holds("Promise 15", "NONE: none is known.", DoneEdgesTest::noneIsKnown);
        S.holds("3", "the latest PULL, CUT, CLAUSE TIED again, DAY, change of weather", DoneEdgesTest::eachActTakenBack);
        S.holds("3", "(8 are known, older ones lost)", DoneEdgesTest::eightAreKnown);
        S.holds("3", "THE DRAW are as ahead of it, whatever was told since", DoneEdgesTest::whateverWasToldSince);
        S.holds("3", "an AGREEMENT, a new CLAUSE leave nothing to be taken back", DoneEdgesTest::nothingLeft);
    }

    // ---- pulls and cuts

    private static void pullBad() {
        KnotLaw x = Checks.told("g1,h1");
        S.allDue("f", x::pull, BAD, -1, 100, MIN, MAX);
        S.due("refused is no act", x.count(7), 0);
        S.due("0", x.pull(0), 1);
        S.due("99", x.pull(99), 2);
    }

    private static void pullOfNothing() {
        KnotLaw x = new KnotLaw();
        S.due("no clauses", x.pull(99), 0);
        S.due("is an act", x.count(7), 1);
        KnotLaw y = Checks.told("h2");
        S.due("too weak", y.pull(1), 0);
        S.due("is an act", y.count(7), 1);
        S.due("just so", y.pull(2), 1);
        S.due("all UNDONE", y.pull(99), 0);
        S.due("acts", y.count(7), 3);
        S.due("which may be taken back", y.undo(), 2);
        S.due("nothing by the last", y.count(3), 0);
        S.due("the one ahead of it", y.undo(), 1);
        S.due("TIED again", y.count(3), 1);
    }

    private static void cutBad() {
        S.allDue("no clauses", v -> new KnotLaw().cut(v), BAD, -1, 0, 7, 8);
        KnotLaw x = Checks.told("h1,h2");
        S.allDue("clause", x::cut, BAD, -1, 2, 7, 8, 32, 33, MIN, MAX);
        S.due("no war", x.count(6), 0);
        S.due("no act", x.count(7), 0);
        S.due("the last", x.cut(1), 1);
        S.due("the first: nothing TIED", x.cut(0), 0);
    }

    private static void cutNot() {
        KnotLaw x = Checks.told("h1,h2");
        x.pull(1);
        S.due("undone by a pull", x.cut(0), NOT);
        x.cut(1);
        S.due("undone by a cut", x.cut(1), NOT);
        S.due("wars", x.count(6), 1);
        S.due("acts", x.count(7), 2);
        x.undo();
        S.due("its cut is taken back", x.cut(1), 0);
    }

    private static void tieBad() {
        S.allDue("no clauses", v -> new KnotLaw().tie(v), BAD, -1, 0, 7, 8);
        KnotLaw x = Checks.told("h1,h2");
        x.pull(99);
        S.allDue("clause", x::tie, BAD, -1, 2, 7, 8, 32, 33, MIN, MAX);
        S.due("nothing TIED", x.count(3), 0);
        S.due("no act", x.count(7), 1);
        S.due("the last", x.tie(1), 2);
        S.due("the first", x.tie(0), 3);
    }

    private static void tieNot() {
        KnotLaw x = Checks.told("h1,h2");
        S.due("never undone", x.tie(0), NOT);
        S.due("no act", x.count(7), 0);
        x.cut(0);
        x.tie(0);
        S.due("tied again already", x.tie(0), NOT);
        S.due("acts", x.count(7), 2);
    }

    // ---- weather and days

    private static void wetBad() {
        KnotLaw x = Checks.told("h1");
        S.allDue("is", x::wet, BAD, -1, 2, MIN, MAX);
        S.due("no act", x.count(7), 0);
        S.due("1", x.wet(1), 2);
        S.allDue("is", x::wet, BAD, -1, 2, MIN, MAX);
        S.due("0", x.wet(0), 1);
    }

    private static void wetNot() {
        KnotLaw x = Checks.told("h1");
        S.due("DRY at first", x.wet(0), NOT);
        x.wet(1);
        S.due("WET", x.wet(1), NOT);
        S.due("acts", x.count(7), 1);
        x.undo();
        S.due("DRY again", x.wet(0), NOT);
        x.seed(1051108995);
        x.drift(1);
        S.due("WET by a DRIFT", x.wet(1), NOT);
        Checks.tell(x, "h1");
        S.due("DRY by an AGREEMENT", x.wet(0), NOT);
    }

    private static void firmTogether() {
        S.due("no clauses", new KnotLaw().wet(1), 0);
        KnotLaw x = Checks.told("s20,s20,s20,s20,s20,s20,s20,s20/0123456");
        S.due("eight, barred or not", x.wet(1), 400);
        for (int c = 0; c < 7; c++) {
            x.cut(c);
        }
        S.due("the one that is TIED", x.wet(0), 30);
        x.cut(7);
        S.due("none that is TIED", x.wet(1), 0);
    }

    private static KnotLaw onDay(String text, int day) {
        KnotLaw x = Checks.told(text);
        for (int left = day; left > 0; left -= 99) {
            x.days(Math.min(left, 99));
        }
        return x;
    }

    private static void daysBad() {
        KnotLaw x = new KnotLaw();
        S.allDue("n", x::days, BAD, -1, 0, 100, MIN, MAX);
        S.due("no day", x.count(1), 0);
        S.due("no act", x.count(7), 0);
        S.due("1", x.days(1), 1);
        S.due("99", x.days(99), 100);
    }

    private static void daysAreOneAct() {
        KnotLaw x = new KnotLaw();
        S.due("99", x.days(99), 99);
        S.due("one act", x.count(7), 1);
        S.due("taken back", x.undo(), 0);
        S.due("all of them", x.count(1), 0);
    }

    private static void daysFull() {
        for (int n = 1; n <= 99; n += 49) {
            KnotLaw x = onDay("h1", 9999 - n);
            S.due("up to 10000", x.days(n + 1), n == 99 ? BAD : FULL);
            S.due("refused", x.count(1), 9999 - n);
            S.due("up to 9999", x.days(n), 9999);
            S.due("the DAY", x.count(1), 9999);
            S.allDue("n on the last day", x::days, FULL, 1, 2, 99);
            S.allDue("n on the last day", x::days, BAD, 0, 100, -1, MIN, MAX);
            S.due("the DAY stays", x.count(1), 9999);
            x.undo();
            S.due("days again, the last being taken back", x.days(n), 9999);
        }
    }

    // ---- drifts

    private static void driftBad() {
        KnotLaw x = Checks.told("h1");
        S.allDue("n", x::drift, BAD, -1, 0, 41, MIN, MAX);
        S.due("no day", x.count(1), 0);
        S.due("no act", x.count(7), 0);
        S.due("the draw stays", x.seed(1), 1);
        x.drift(1);
        S.due("1", x.count(1), 1);
        x.drift(40);
        S.due("40", x.count(1), 41);
    }

    private static void driftActs() {
        for (int n : new int[] {1, 2, 7, 8, 9, 40}) {
            KnotLaw x = Checks.told("h12,h13,h12/0,s5/1,h20");
            x.drift(n);
            S.due(n + " days: acts", x.count(7), Math.min(n, 8));
            for (int k = 1; k <= Math.min(n, 8); k++) {
                S.due("taken back", x.undo(), Math.min(n, 8) - k);
                S.due("the DAY", x.count(1), n - k);
                KnotLaw y = Checks.told("h12,h13,h12/0,s5/1,h20");
                if (n - k > 0) {
                    y.drift(n - k);
                }
                S.due("as behind one DAY less", alike(x), alike(y));
            }
            S.due("older ones lost", x.undo(), NONE);
        }
    }

    /** What an act may change; the draw is put back as it was. */
    private static String alike(KnotLaw x) {
        int draw = x.seed(0);
        x.seed(draw);
        return x.count(1) + " " + x.count(2) + " " + x.count(3) + " " + x.count(6) + " " + draw;
    }

    private static void driftFull() {
        S.due("no clauses", new KnotLaw().drift(40), 0);
        KnotLaw x = onDay("o20", 9959);
        S.due("40 up to 9999", x.drift(40), 1);
        S.due("the DAY", x.count(1), 9999);
        KnotLaw y = onDay("o20", 9960);
        int acts = y.count(7);
        S.due("40 up to 10000", y.drift(40), FULL);
        S.due("not even the first ones", y.count(1), 9960);
        S.due("no act", y.count(7), acts);
        S.due("no draw", y.seed(1), 1);
        S.due("39", y.drift(39), 1);
        S.allDue("n on the last day", y::drift, FULL, 1, 2, 40);
        S.allDue("n on the last day", y::drift, BAD, 0, 41, -1, MIN, MAX);
    }

    private static void seedBad() {
        KnotLaw x = new KnotLaw();
        S.allDue("v", x::seed, BAD, -1, -2, MIN);
        S.due("the greatest", x.seed(MAX), 1);
        S.due("0", x.seed(0), MAX);
        S.due("refused", x.seed(-1), BAD);
        S.due("what it was", x.seed(7), 0);
        S.due("no act", x.count(7), 0);
    }

    private static void drawAtFirst() {
        S.due("1 at first", new KnotLaw().seed(1), 1);
        int[] seeds = {0, 1, 2, MAX, MAX - 1, 1 << 30, 1340914462};
        for (int seed : seeds) {
            KnotLaw x = new KnotLaw();
            x.seed(seed);
            S.due("as told", x.seed(seed), seed);
            for (int k = 0; k < 40; k++) {
                x.drift(1);
            }
            S.due("31 bits", x.seed(1) >= 0 ? 1 : 0, 1);
        }
    }

    private static void drawWraps() {
        int[] seeds = {0, 1, 2, 3, MAX, MAX - 1, 1 << 30, (1 << 30) + 1, 1103515245, 12345};
        for (int seed : seeds) {
            KnotLaw x = new KnotLaw();
            x.seed(seed);
            long want = seed;
            for (int k = 0; k < 5; k++) {
                want = (want * 1103515245L + 12345L) % (1L << 31);
                x.drift(1);
                S.due("seed " + seed + ", day " + k, x.seed((int) want), want);
            }
        }
        KnotLaw y = new KnotLaw();
        y.drift(1);
        S.due("1, a DAY on", y.seed(1), 1103527590);
        y.drift(2);
        S.due("1, two DAYS on", y.seed(1), 377401575);
    }

    /** Draws just below, at and behind a multiple of 65536: 196607, 196608, 262143, 262144, 2147352576, 2147352575. */
    private static void weatherOfADraw() {
        int[] seeds = {1340914462, 1051108995, 995212062, 705406595, 632137347, 921942814};
        int[] wet = {0, 1, 1, 0, 1, 0};
        for (int k = 0; k < seeds.length; k++) {
            for (int before = 0; before < 2; before++) {
                KnotLaw x = new KnotLaw();
                x.wet(before);
                x.seed(seeds[k]);
                x.drift(1);
                S.due("WET behind " + before + " by " + x.seed(0), x.count(2), wet[k]);
            }
        }
    }

    /** Draws by 128 that leave 0 and 29 over by 30, and the weather comes ahead of the pull. */
    private static void pullOfADraw() {
        int[] draws = {0, 127, 128, 29 * 128, 30 * 128 - 1, 30 * 128, MAX, MAX - 127, MAX - 128};
        int[] force = {0, 0, 1, 29, 29, 0, 15, 15, 14};
        int[] wet = {1, 1, 1, 1, 1, 1, 0, 0, 0};
        for (int k = 0; k < draws.length; k++) {
            KnotLaw x = Checks.told("h20,s20,l20,g1,h1,h2,h7,h8");
            int fall = 0;
            x.days(1);
            for (int c = 0; c < 8; c++) {
                fall |= firm(x.of(c, 0), x.of(c, 1), wet[k]) <= force[k] ? 1 << c : 0;
            }
            x.seed(seedOf(draws[k]));
            S.due("TIED behind draw " + draws[k], x.drift(1), 255 & ~fall);
            S.due("draw", x.seed(0), draws[k]);
            S.due("WET by draw " + draws[k], x.count(2), wet[k]);
        }
    }

    /** On a day that is no multiple of 7. */
    private static int firm(int kind, int holds, int wet) {
        int hitch = holds * (1 + wet);
        return kind == 0 ? hitch : kind == 1 ? hitch + 10 : hitch / 2;
    }

    /** The draw ahead of a draw: the factor is odd, so there is just one. */
    private static int seedOf(int draw) {
        long inverse = 1;
        for (int k = 0; k < 6; k++) {
            inverse = inverse * (2 - 1103515245L * inverse);
        }
        return (int) ((draw - 12345L) * inverse & 0x7fffffffL);
    }

    private static void nextDayLast() {
        // Draw 0: a pull of 0, if it is WET. A granny is void on the DAY that goes by, not on the one that comes.
        KnotLaw x = Checks.told("g20");
        x.seed(seedOf(0));
        S.due("a pull on DAY 0", x.drift(1), 0);
        S.due("the next DAY", x.count(1), 1);
        KnotLaw y = onDay("g20", 6);
        y.seed(seedOf(0));
        S.due("a pull on DAY 6", y.drift(1), 1);
        S.due("the next DAY", y.count(1), 7);
        y.seed(seedOf(0));
        S.due("a pull on DAY 7", y.drift(1), 0);
    }

    // ---- what is taken back

    private static void howManyMore() {
        KnotLaw x = Checks.told("h1,h2");
        x.pull(1);
        x.cut(1);
        x.tie(0);
        S.due("two more", x.undo(), 2);
        S.due("of which the latest", x.count(3), 0);
        S.due("one more", x.undo(), 1);
        S.due("no more", x.undo(), 0);
        S.due("all TIED", x.count(3), 3);
    }

    private static void noneIsKnown() {
        KnotLaw x = new KnotLaw();
        S.due("a new object", x.undo(), NONE);
        x.seed(9);
        x.owe(0, 0);
        x.image();
        x.sheet(0, 0, 1);
        x.film(0, 1, 0, 0, 0);
        x.falls(9);
        x.type('h');
        S.due("behind what is no act", x.undo(), NONE);
        x.days(1);
        S.due("one", x.undo(), 0);
        S.due("none", x.undo(), NONE);
        S.due("none, again", x.undo(), NONE);
    }

    private static void eachActTakenBack() {
        actTakenBack("pull", x -> x.pull(99));
        actTakenBack("cut", x -> x.cut(1));
        actTakenBack("tie", x -> x.tie(0));
        actTakenBack("days", x -> x.days(99));
        actTakenBack("dry", x -> x.wet(0));
        actTakenBack("drift", x -> x.drift(1));
    }

    private static void actTakenBack(String name, Consumer<KnotLaw> act) {
        KnotLaw x = Checks.told("h5,h7/0,h9/1");
        x.wet(1);
        x.cut(0);
        x.days(7);
        String ahead = alike(x);
        act.accept(x);
        S.due(name + " is an act", x.count(7), 4);
        S.due(name + " changes something", alike(x).equals(ahead) ? 1 : 0, 0);
        S.due(name + " taken back", x.undo(), 3);
        S.due(name + " had not been", alike(x), ahead);
    }

    private static void eightAreKnown() {
        for (int acts = 7; acts <= 10; acts++) {
            KnotLaw x = new KnotLaw();
            for (int k = 0; k < acts; k++) {
                x.days(1);
            }
            int known = Math.min(acts, 8);
            S.due("known of " + acts, x.count(7), known);
            for (int k = 1; k <= known; k++) {
                S.due("more", x.undo(), known - k);
                S.due("the DAY", x.count(1), acts - k);
            }
            S.due("older ones lost", x.undo(), NONE);
            S.due("the DAY", x.count(1), acts - known);
        }
    }

    private static void whateverWasToldSince() {
        KnotLaw x = Checks.told("h5@1");
        x.seed(40);
        x.pull(9);
        x.seed(41);
        x.owe(0, 3);
        S.due("taken back", x.undo(), 0);
        S.due("THE DRAW", x.seed(42), 40);
        S.due("TIED", x.count(3), 1);
        S.due("OWED as told since", x.of(0, 3), 3);
        x.drift(1);
        x.seed(43);
        x.undo();
        S.due("THE DRAW", x.seed(42), 42);
        // Each act is taken back with the draw that was ahead of it.
        x.days(1);
        x.seed(50);
        x.days(1);
        x.seed(51);
        x.undo();
        S.due("the later one", x.seed(60), 50);
        x.undo();
        S.due("the earlier one", x.seed(61), 42);
    }

    private static void nothingLeft() {
        KnotLaw x = Checks.told("h5,h6");
        x.pull(5);
        x.days(9);
        S.due("a new CLAUSE", x.clause(0, 1, 0, 0), 2);
        S.due("nothing", x.count(7), 0);
        S.due("none", x.undo(), NONE);
        S.due("the DAY stays", x.count(1), 9);
        S.due("UNDONE stays", x.count(3), 6);
        x.cut(2);
        S.due("a CLAUSE that is refused", x.clause(5, 1, 0, 0), BAD);
        S.due("leaves it", x.count(7), 1);
        S.due("an AGREEMENT with a FAULT", x.agreement(), -20);
        S.due("leaves it", x.count(7), 1);
        S.due("an AGREEMENT", Checks.tell(x, "h1"), 1);
        S.due("nothing", x.count(7), 0);
        S.due("none", x.undo(), NONE);
        KnotLaw y = Twins.full();
        int acts = y.count(7);
        S.due("a ninth CLAUSE", y.clause(0, 1, 0, 0), FULL);
        S.due("leaves all", y.count(7), acts);
    }
}
