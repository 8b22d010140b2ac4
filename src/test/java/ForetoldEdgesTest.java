import java.util.List;

/** The edges that promises 17 to 30 and the block ==== 2 of the terms name, a test for each sentence. */
public final class ForetoldEdgesTest {
    private static final int MIN = Sentences.MIN;
    private static final int MAX = Sentences.MAX;
    private static final int BAD = KnotLaw.BAD;
    private static final int NOT = KnotLaw.NOT;
    private static final int NONE = KnotLaw.NONE;
    private static final int[] NO_FORCE = {-1, 100, 101, MIN, MAX};
    private static final int[] NO_FLAG = {-1, 2, 3, MIN, MAX};
    private static final int[] NO_CLAUSE = {-1, 3, 7, 8, 32, MIN, MAX};
    private static final String LOOSE = "h1,h1,h1,h1,h1,h1,h1,h1";
    private static final String CHAIN = "h1,h1/0,h1/1,h1/2,h1/3,h1/4,h1/5,h1/6";
    private static final Sentences S = new Sentences("ForetoldEdgesTest");
    private static final Twins T = new Twins(S);

    public static void main(String[] args) {
        pulls();
        bars();
        orders();
        games();
        cutsAndWeather();
        images();
        S.end();
    }

    private static void pulls() {
        S.holds("2", "FORETOLD from now (nothing is changed)", ForetoldEdgesTest::nothingIsChanged);
        S.holds("2", "DAY and weather as now", ForetoldEdgesTest::dayAndWeatherAsNow);
        S.holds("2", "FALLS: which CLAUSES a PULL of f (0 .. 99) undoes.", ForetoldEdgesTest::falls);
        S.holds("Promise 17", "FALLS (a set). BAD.", ForetoldEdgesTest::fallsBad);
        S.holds("2", "the fewest PULLS of f (0 .. 20) behind which it is UNDONE; none.", ForetoldEdgesTest::fewestPulls);
        S.holds("Promise 18", "PULLS; NONE. BAD.", ForetoldEdgesTest::pullsBad);
        S.holds("2", "FORCE for a CLAUSE, n PULLS (1 .. 8)", ForetoldEdgesTest::forceOfPulls);
        S.holds("2", "the least f (0 .. 99) by which it is UNDONE behind n such PULLS; none.", ForetoldEdgesTest::leastForce);
        S.holds("Promise 19", "FORCE; NONE. BAD.", ForetoldEdgesTest::forceBad);
    }

    private static void bars() {
        S.holds("2", "all CLAUSES that are TIED and must be UNDONE ahead of it", ForetoldEdgesTest::needsOfTied);
        S.holds("2", "(a set; itself not)", ForetoldEdgesTest::needsNotItself);
        S.holds("Promise 20", "NEEDS (a set). BAD.", ForetoldEdgesTest::needsBad);
        S.holds("2", "each BARRED by the one ahead of it, the longest row is", ForetoldEdgesTest::deepestRow);
        S.holds("Promise 21", "DEEP (0: nothing is TIED).", ForetoldEdgesTest::deepOfNothing);
        S.holds("2", "the fewest CLAUSES that must be UNDONE so that it is not BOUND", ForetoldEdgesTest::freesFewest);
        S.holds("Promise 22", "FREES: how many (what 0), which (1). BAD.", ForetoldEdgesTest::freesBad);
    }

    private static void orders() {
        S.holds("2", "in how many orders all that are TIED may be UNDONE one by one", ForetoldEdgesTest::ordersOfTied);
        S.holds("2", "(by numbers, rising): the k-th CLAUSE (0 on)", ForetoldEdgesTest::firstOrder);
        S.holds("Promise 23", "in how many (k -1; nothing TIED: 1)", ForetoldEdgesTest::ordersOfNothing);
        S.holds("Promise 23", "(NONE: not so many)", ForetoldEdgesTest::notSoMany);
        S.holds("Promise 23", "BAD: k below -1.", ForetoldEdgesTest::ordersBad);
        S.holds("2", "in how many of all ORDERS the one is UNDONE ahead of the other", ForetoldEdgesTest::aheadOfTheOther);
        S.holds("Promise 24", "AHEAD: above (what 0), below (1). BAD", ForetoldEdgesTest::aheadBad);
        S.holds("Promise 24", "BAD: alike, too", ForetoldEdgesTest::aheadAlike);
        S.holds("Promise 24", "NOT: one is UNDONE.", ForetoldEdgesTest::aheadNot);
    }

    private static void games() {
        S.holds("2", "(1, 0; nothing TIED: by the last one, undone by the other: 0, 1)", ForetoldEdgesTest::gameOfNothing);
        S.holds("2", "whoever undoes the last one wins (0), or loses (1), as told", ForetoldEdgesTest::gameOfTheLast);
        S.holds("2", "of several the least; none: it cannot win, nothing is TIED", ForetoldEdgesTest::gameLeastOrNone);
        S.holds("Promise 25", "GAME (lose 0, 1)", ForetoldEdgesTest::gameBadLose);
        S.holds("Promise 25", "whether the one wins (what 0), the CLAUSE (1; NONE). BAD.", ForetoldEdgesTest::gameBadWhat);
    }

    private static void cutsAndWeather() {
        S.holds("2", "the fewest CLAUSES (TIED, not itself) to be CUT now", ForetoldEdgesTest::cutsFewest);
        S.holds("2", "of like ones the least set: how many; which; none (it is UNDONE, too)", ForetoldEdgesTest::cutsNone);
        S.holds("Promise 26", "CUTS: how many (what 0), which (1); NONE. BAD.", ForetoldEdgesTest::cutsBad);
        S.holds("2", "the first of the next 0 to 60 DAYS on which it is FIRM by f or less", ForetoldEdgesTest::weatherDays);
        S.holds("2", "(FREE or not), weather as now; none", ForetoldEdgesTest::weatherFreeOrNot);
        S.holds("Promise 27", "WEATHER: behind how many DAYS; NONE. BAD.", ForetoldEdgesTest::weatherBad);
        S.holds("2", "ROTTEN by c of 10 (0 .. 10)", ForetoldEdgesTest::rottenTenths);
        S.holds("2", "a fraction in lowest terms", ForetoldEdgesTest::rottenLowestTerms);
        S.holds("2", "how likely a told one is UNDONE then", ForetoldEdgesTest::rottenUndone);
        S.holds("Promise 28", "ROTTEN: above (what 0), below (1). BAD.", ForetoldEdgesTest::rottenBad);
    }

    private static void images() {
        S.holds("Promise 29", "All but SHEETS, THE TAPE is kept as an IMAGE: 1.", ForetoldEdgesTest::imageKeepsAllBut);
        S.holds("Promise 30", "All is as it was then: 1.", ForetoldEdgesTest::restoreAll);
        S.holds("Promise 30", "NONE: there is none.", ForetoldEdgesTest::noImage);
    }

    private static KnotLaw onDay(String text, int day) {
        KnotLaw x = Checks.told(text);
        for (int left = day; left > 0; left -= 99) {
            x.days(Math.min(left, 99));
        }
        return x;
    }

    // ---- pulls

    private static void nothingIsChanged() {
        // Midway 1 and 3 are TIED, a splice and an oath, firm by 16 and 18.
        T.unchanged("falls", Twins::midway, x -> x.falls(16), 2);
        T.unchanged("pulls", Twins::midway, x -> x.pulls(3, 18), 1);
        T.unchanged("force", Twins::midway, x -> x.force(3, 8), 18);
        T.unchanged("needs", Twins::midway, x -> x.needs(3), 0);
        T.unchanged("deep", Twins::midway, KnotLaw::deep, 1);
        T.unchanged("frees", Twins::midway, x -> x.frees(3, 1), 8);
        T.unchanged("orders", Twins::midway, x -> x.orders(-1), 2);
        T.unchanged("orders", Twins::midway, x -> x.orders(1), 3);
        T.unchanged("ahead", Twins::midway, x -> x.ahead(3, 1, 0), 1);
        T.unchanged("game", Twins::midway, x -> x.game(1, 1), 1);
        T.unchanged("cuts", Twins::midway, x -> x.cuts(3, 99, 0), 0);
        T.unchanged("weather", Twins::midway, x -> x.weather(4, 0), 4);
        T.unchanged("rotten", Twins::midway, x -> x.rotten(3, 17, 5, 1), 2);
        T.unchanged("felt", Twins::midway, x -> x.felt(3, 0, 0, 0, 3, 0), 0);
        T.unchangedBut("film", Twins::midway, x -> x.film(17, 6, 0, 0, 0), 6, List.of("sheet 0"));
        T.unchanged("of", Twins::midway, x -> x.of(3, 6), 18);
        T.unchanged("party", Twins::midway, x -> x.party(3, 1), 1);
        T.unchanged("count", Twins::midway, x -> x.count(4), 10);
    }

    private static void dayAndWeatherAsNow() {
        KnotLaw x = onDay("g20,o20", 1);
        S.due("no DAY goes by between pulls", x.pulls(0, 9), NONE);
        S.due("pulls", x.pulls(0, 10), 1);
        S.due("force of eight pulls", x.force(0, 8), 10);
        S.due("cuts", x.cuts(0, 9, 0), NONE);
        S.due("rotten", x.rotten(0, 9, 0, 0), 0);
        Rows.lay(x, 0, 0, 9, 0, 9, 0, 9, 0, 9, 0, 9, 0, 9, 0);
        S.due("felt", x.felt(0, 0, 0, 0, 6, 1) >> 20, 1);
        x.wet(1);
        S.due("WET", x.pulls(0, 19), NONE);
        S.due("WET", x.force(0, 1), 20);
        S.due("WET", x.force(1, 1), 50);
        KnotLaw y = onDay("g20,h20/0,g20/1", 7);
        S.due("void on the DAY that is now", y.force(0, 1), 0);
        S.due("behind three pulls still", y.pulls(2, 20), 3);
        S.due("behind three pulls still", y.force(2, 3), 20);
    }

    private static void falls() {
        KnotLaw x = Checks.told("g1,h1,h20/1,s20");
        S.due("0", x.falls(0), 1);
        S.due("1", x.falls(1), 3);
        S.due("29", x.falls(29), 3);
        S.due("99", x.falls(99), 11);
        S.due("as a PULL then does", x.pull(99), 11);
        S.due("what was freed", x.falls(99), 4);
        x.pull(99);
        S.due("nothing TIED", x.falls(99), 0);
        S.due("no clauses", new KnotLaw().falls(0), 0);
    }

    private static void fallsBad() {
        KnotLaw x = Checks.told("g1,h1");
        S.allDue("f", x::falls, BAD, NO_FORCE);
        S.allDue("f, no clauses", v -> new KnotLaw().falls(v), BAD, NO_FORCE);
    }

    private static void fewestPulls() {
        KnotLaw x = Checks.told(CHAIN);
        for (int c = 0; c < 8; c++) {
            S.due("row of " + c, x.pulls(c, 1), c + 1);
            S.due("row of " + c, x.pulls(c, 99), c + 1);
            S.due("too weak", x.pulls(c, 0), NONE);
        }
        x.cut(3);
        S.due("UNDONE: 0 of them", x.pulls(3, 0), 0);
        S.due("behind it", x.pulls(7, 1), 4);
        KnotLaw y = Checks.told("h5,h9/0,h2/1");
        S.due("stuck behind a firmer one", y.pulls(2, 8), NONE);
        S.due("just not", y.pulls(2, 9), 3);
        KnotLaw z = onDay("o20", 700);
        S.due("firm by 100", z.pulls(0, 99), NONE);
    }

    private static void pullsBad() {
        KnotLaw x = Checks.told("g1,h1,h1/1");
        S.allDue("clause", v -> x.pulls(v, 9), BAD, NO_CLAUSE);
        S.allDue("f", v -> x.pulls(0, v), BAD, NO_FORCE);
        x.cut(0);
        S.allDue("f, UNDONE", v -> x.pulls(0, v), BAD, NO_FORCE);
        S.due("NONE", x.pulls(2, 0), NONE);
    }

    private static void forceOfPulls() {
        KnotLaw x = Checks.told(CHAIN);
        S.allDue("n", v -> x.force(0, v), BAD, -1, 0, 9, 10, MIN, MAX);
        for (int c = 0; c < 8; c++) {
            for (int n = 1; n <= 8; n++) {
                S.due("row of " + c + ", pulls " + n, x.force(c, n), n > c ? 1 : NONE);
            }
        }
    }

    private static void leastForce() {
        KnotLaw x = Checks.told("l1,h1,g20,h5/2");
        S.due("0", x.force(0, 1), 0);
        S.due("1", x.force(1, 1), 1);
        S.due("the firmest of a row", x.force(3, 2), 5);
        x.cut(3);
        S.due("UNDONE: 0", x.force(3, 1), 0);
        S.due("firm by 99", onDay("o20", 699).force(0, 1), 99);
        S.due("firm by 100", onDay("o20", 700).force(0, 8), NONE);
        KnotLaw y = onDay("o20,h1/0", 700);
        S.due("behind one firm by 100", y.force(1, 8), NONE);
        y.cut(0);
        S.due("which is UNDONE", y.force(1, 1), 1);
        S.due("of the one that is firm by 100", y.force(0, 1), 0);
    }

    private static void forceBad() {
        KnotLaw x = Checks.told("g1,h1,h1/1");
        S.allDue("clause", v -> x.force(v, 1), BAD, NO_CLAUSE);
        S.allDue("n", v -> x.force(0, v), BAD, 0, 9, -1, MIN, MAX);
        x.cut(0);
        S.allDue("n, UNDONE", v -> x.force(0, v), BAD, 0, 9, -1, MIN, MAX);
        S.due("NONE", x.force(2, 1), NONE);
        S.due("1", x.force(1, 1), 1);
        S.due("8", x.force(2, 8), 1);
    }

    // ---- bars

    private static void needsOfTied() {
        KnotLaw x = Checks.told(CHAIN);
        S.due("the first", x.needs(0), 0);
        S.due("the last", x.needs(7), 127);
        x.cut(3);
        S.due("not beyond what is UNDONE", x.needs(7), Checks.set(4, 5, 6));
        S.due("what is UNDONE waits for nothing", x.needs(3), 0);
        x.tie(3);
        S.due("TIED again", x.needs(7), 127);
        KnotLaw y = Checks.told("h1,h1/0");
        y.pull(1);
        y.pull(1);
        y.tie(0);
        S.due("UNDONE, its bar TIED again", y.needs(1), 0);
    }

    private static void needsNotItself() {
        KnotLaw x = Checks.told(CHAIN);
        for (int c = 0; c < 8; c++) {
            S.due("itself not", x.needs(c), (1 << c) - 1);
        }
        KnotLaw y = Checks.told(LOOSE + "/06");
        S.due("a set", y.needs(7), Checks.set(0, 6));
    }

    private static void needsBad() {
        KnotLaw x = Checks.told("g1,h1,h1/1");
        S.allDue("clause", x::needs, BAD, NO_CLAUSE);
        S.allDue("clause of none", v -> new KnotLaw().needs(v), BAD, -1, 0, 7, 8);
    }

    private static void deepestRow() {
        KnotLaw x = Checks.told(CHAIN);
        S.due("eight", x.deep(), 8);
        x.cut(0);
        S.due("the first UNDONE", x.deep(), 7);
        x.cut(4);
        S.due("broken in the middle", x.deep(), 3);
        S.due("no row", Checks.told(LOOSE).deep(), 1);
        S.due("one", Checks.told("h1").deep(), 1);
        // A row of those that are BARRED directly: what is UNDONE between two of them parts them.
        KnotLaw y = Checks.told("h1,h1/0,h1/1");
        y.cut(1);
        S.due("the middle one UNDONE", y.deep(), 1);
        S.due("another way round it", deepRoundTheMiddle(), 2);
    }

    private static int deepRoundTheMiddle() {
        KnotLaw x = Checks.told("h1,h1/0,h1/01");
        x.cut(1);
        return x.deep();
    }

    private static void deepOfNothing() {
        S.due("no clauses", new KnotLaw().deep(), 0);
        KnotLaw x = Checks.told(CHAIN);
        for (int c = 7; c >= 0; c--) {
            S.due("row", x.deep(), c + 1);
            x.cut(c);
        }
        S.due("nothing is TIED", x.deep(), 0);
    }

    private static void freesFewest() {
        KnotLaw x = Checks.told("h1,h1/0@1,h1/1@2,h1@3");
        S.due("all ahead of it", x.frees(2, 1), 7);
        S.due("how many", x.frees(2, 0), 3);
        S.due("alone", x.frees(3, 1), 8);
        x.cut(1);
        S.due("not BOUND", x.frees(1, 0), 0);
        S.due("not BOUND", x.frees(1, 1), 0);
        S.due("not beyond what is UNDONE", x.frees(2, 1), 4);
        KnotLaw y = Checks.told(CHAIN);
        S.due("owes all", y.frees(0, 0), 8);
        S.due("owes all", y.frees(0, 1), 255);
        S.due("owes none", y.frees(1, 0), 0);
        S.due("owes none", y.frees(1, 1), 0);
        S.due("no clauses", new KnotLaw().frees(0, 1), 0);
    }

    private static void freesBad() {
        KnotLaw x = Checks.told("h1,h1/0@1,h1/1@2,h1@3");
        S.allDue("party", v -> x.frees(v, 0), BAD, -1, 4, 32, MIN, MAX);
        S.allDue("what", v -> x.frees(0, v), BAD, NO_FLAG);
    }

    // ---- orders

    private static void ordersOfTied() {
        S.due("loose", Checks.told(LOOSE).orders(-1), 40320);
        S.due("a chain", Checks.told(CHAIN).orders(-1), 1);
        KnotLaw x = Checks.told(LOOSE + "/0123456");
        S.due("the last one last", x.orders(-1), 5040);
        x.cut(0);
        S.due("just those that are TIED", x.orders(-1), 720);
        S.due("one", Checks.told("h1").orders(-1), 1);
        // What is UNDONE bars none, though the one that bars it is TIED.
        KnotLaw y = Checks.told("h1,h1/0,h1/1");
        y.cut(1);
        S.due("the middle one UNDONE", y.orders(-1), 2);
    }

    private static void firstOrder() {
        KnotLaw x = Checks.told("h9,h1,h8/0,h2/1,h7");
        for (int k = 0; k < 5; k++) {
            S.due("k " + k, x.orders(k), k);
        }
        x.cut(0);
        x.cut(3);
        int[] left = {1, 2, 4, NONE};
        for (int k = 0; k < left.length; k++) {
            S.due("left " + k, x.orders(k), left[k]);
        }
        S.due("the eighth", Checks.told(CHAIN).orders(7), 7);
    }

    private static void ordersOfNothing() {
        S.due("no clauses", new KnotLaw().orders(-1), 1);
        KnotLaw x = Checks.told(LOOSE);
        x.pull(99);
        S.due("nothing TIED", x.orders(-1), 1);
        S.due("nothing TIED", x.orders(0), NONE);
    }

    private static void notSoMany() {
        S.allDue("k of none", v -> new KnotLaw().orders(v), NONE, 0, 1, 8, MAX);
        KnotLaw x = Checks.told("h1,h2");
        S.due("the last", x.orders(1), 1);
        S.allDue("k of two", x::orders, NONE, 2, 3, 7, 8, 32, MAX);
        KnotLaw y = Checks.told(LOOSE);
        S.allDue("k of eight", y::orders, NONE, 8, 9, MAX);
    }

    private static void ordersBad() {
        S.allDue("k", v -> new KnotLaw().orders(v), BAD, -2, -3, MIN);
        KnotLaw x = Checks.told("h1,h2");
        S.allDue("k", x::orders, BAD, -2, -3, MIN);
        S.due("-1", x.orders(-1), 2);
    }

    private static void aheadOfTheOther() {
        KnotLaw x = Checks.told("h1,h1/0,h1");
        S.due("in all", x.ahead(0, 1, 0), 3);
        S.due("of all", x.ahead(0, 1, 1), 3);
        S.due("in none", x.ahead(1, 0, 0), 0);
        S.due("of all", x.ahead(1, 0, 1), 3);
        S.due("in some", x.ahead(2, 1, 0), 2);
        S.due("the other way", x.ahead(1, 2, 0), 1);
        KnotLaw y = Checks.told(LOOSE);
        S.due("in half", y.ahead(0, 7, 0), 20160);
        S.due("of all", y.ahead(0, 7, 1), 40320);
        KnotLaw z = Checks.told("h1,h1/0,h1/1");
        z.cut(1);
        S.due("what barred them is UNDONE", z.ahead(2, 0, 0), 1);
    }

    private static void aheadBad() {
        KnotLaw x = Checks.told("h1,h1/0,h1");
        S.allDue("clause", v -> x.ahead(v, 0, 0), BAD, NO_CLAUSE);
        S.allDue("other", v -> x.ahead(0, v, 0), BAD, NO_CLAUSE);
        S.allDue("what", v -> x.ahead(0, 1, v), BAD, NO_FLAG);
        x.cut(0);
        S.allDue("what, UNDONE", v -> x.ahead(0, 1, v), BAD, NO_FLAG);
    }

    private static void aheadAlike() {
        KnotLaw x = Checks.told("h1,h1/0,h1");
        for (int c = 0; c < 3; c++) {
            S.due("alike", x.ahead(c, c, 0), BAD);
            S.due("alike", x.ahead(c, c, 1), BAD);
        }
        x.cut(1);
        S.due("alike, UNDONE", x.ahead(1, 1, 0), BAD);
    }

    private static void aheadNot() {
        KnotLaw x = Checks.told("h1,h1/0,h1");
        x.cut(1);
        for (int what = 0; what < 2; what++) {
            S.due("the one", x.ahead(1, 0, what), NOT);
            S.due("the other", x.ahead(0, 1, what), NOT);
        }
        x.cut(0);
        S.due("both", x.ahead(0, 1, 0), NOT);
        x.tie(0);
        S.due("TIED again", x.ahead(0, 2, 1), 2);
    }

    // ---- games

    private static void gameOfNothing() {
        KnotLaw x = new KnotLaw();
        KnotLaw y = Checks.told(LOOSE);
        y.pull(99);
        for (KnotLaw z : new KnotLaw[] {x, y}) {
            S.due("the last one wins: the other did", z.game(0, 0), 0);
            S.due("the last one loses: the other did", z.game(1, 0), 1);
            S.due("no CLAUSE", z.game(0, 1), NONE);
            S.due("no CLAUSE", z.game(1, 1), NONE);
        }
    }

    private static void gameOfTheLast() {
        KnotLaw x = Checks.told(CHAIN);
        for (int left = 8; left >= 1; left--) {
            S.due("the last wins, " + left, x.game(0, 0), left % 2);
            S.due("the last loses, " + left, x.game(1, 0), 1 - left % 2);
            S.due("the CLAUSE, " + left, x.game(0, 1), left % 2 == 1 ? 8 - left : NONE);
            S.due("the CLAUSE, " + left, x.game(1, 1), left % 2 == 0 ? 8 - left : NONE);
            x.cut(8 - left);
        }
    }

    private static void gameLeastOrNone() {
        KnotLaw x = Checks.told("o20,h1,h1/0");
        S.due("of several the least, however FIRM", x.game(0, 1), 0);
        S.due("it cannot win", x.game(1, 1), NONE);
        x.cut(0);
        S.due("of several the least", x.game(1, 1), 1);
        S.due("it cannot win", x.game(0, 1), NONE);
        x.pull(99);
        S.due("nothing is TIED", x.game(1, 1), NONE);
        KnotLaw y = Checks.told("h1,h1/0,h1");
        y.cut(0);
        y.tie(0);
        y.cut(2);
        y.tie(2);
        S.due("the least that is FREE", y.game(0, 1), 0);
    }

    private static void gameBadLose() {
        KnotLaw x = Checks.told("h1");
        S.allDue("lose", v -> x.game(v, 0), BAD, NO_FLAG);
        S.allDue("lose", v -> x.game(v, 1), BAD, NO_FLAG);
        S.allDue("lose, no clauses", v -> new KnotLaw().game(v, 0), BAD, NO_FLAG);
    }

    private static void gameBadWhat() {
        KnotLaw x = Checks.told("h1");
        S.allDue("what", v -> x.game(0, v), BAD, NO_FLAG);
        S.allDue("what", v -> x.game(1, v), BAD, NO_FLAG);
        S.allDue("what, no clauses", v -> new KnotLaw().game(0, v), BAD, NO_FLAG);
        S.due("NONE", x.game(1, 1), NONE);
    }

    // ---- cuts, weather, rotten

    private static void cutsFewest() {
        KnotLaw x = Checks.told(LOOSE + "/0123456");
        S.due("none of them", x.cuts(0, 1, 0), 0);
        S.due("none of them", x.cuts(0, 1, 1), 0);
        S.due("all of them, itself not", x.cuts(7, 1, 0), 7);
        S.due("all of them, itself not", x.cuts(7, 1, 1), 127);
        x.cut(3);
        S.due("TIED ones alone", x.cuts(7, 1, 1), 127 & ~8);
        KnotLaw y = Checks.told(CHAIN);
        S.due("just what bars it, whatever bars that", y.cuts(7, 1, 1), 64);
        S.due("however FIRM that is", cutsOfFirm(), 1);
    }

    private static int cutsOfFirm() {
        return onDay("o20,h1/0", 9999).cuts(1, 1, 1);
    }

    private static void cutsNone() {
        KnotLaw x = Checks.told("h5,h9/0");
        S.due("too weak", x.cuts(1, 8, 0), NONE);
        S.due("too weak", x.cuts(1, 8, 1), NONE);
        S.due("just not", x.cuts(1, 9, 0), 1);
        S.due("which", x.cuts(1, 9, 1), 1);
        S.due("too weak for a FREE one", x.cuts(0, 4, 1), NONE);
        x.cut(1);
        S.due("it is UNDONE", x.cuts(1, 99, 0), NONE);
        S.due("it is UNDONE", x.cuts(1, 99, 1), NONE);
        S.due("firm by 100", onDay("o20", 700).cuts(0, 99, 0), NONE);
    }

    private static void cutsBad() {
        KnotLaw x = Checks.told("h5,h9/0,h1");
        S.allDue("clause", v -> x.cuts(v, 9, 0), BAD, NO_CLAUSE);
        S.allDue("f", v -> x.cuts(0, v, 0), BAD, NO_FORCE);
        S.allDue("what", v -> x.cuts(0, 9, v), BAD, NO_FLAG);
        x.cut(0);
        S.allDue("f, UNDONE", v -> x.cuts(0, v, 0), BAD, NO_FORCE);
        S.allDue("what, UNDONE", v -> x.cuts(0, 9, v), BAD, NO_FLAG);
        S.due("0", Checks.told("g1").cuts(0, 0, 0), 0);
        S.due("99", x.cuts(1, 99, 0), 0);
    }

    private static void weatherDays() {
        for (int day = 0; day <= 14; day++) {
            KnotLaw x = onDay("g20,o9", day);
            S.due("a granny from DAY " + day, x.weather(0, 0), (14 - day) % 7);
            S.due("a granny from DAY " + day, x.weather(0, 9), (14 - day) % 7);
            S.due("now", x.weather(0, 10), 0);
            S.due("an oath", x.weather(1, 19 + day / 10), 0);
            S.due("never less firm", x.weather(1, 18 + day / 10), NONE);
        }
        S.due("behind the last DAY", onDay("g20", 9999).weather(0, 0), 4);
        S.due("DAY 9996", onDay("g20", 9996).weather(0, 0), 0);
        S.due("DAY 9997", onDay("g20", 9997).weather(0, 0), 6);
    }

    private static void weatherFreeOrNot() {
        KnotLaw x = onDay("h5,g20/0", 1);
        S.due("barred", x.weather(1, 0), 6);
        S.due("barred", x.weather(1, 10), 0);
        x.wet(1);
        S.due("WET", x.weather(1, 10), 6);
        S.due("WET", x.weather(1, 20), 0);
        S.due("a hitch: none", x.weather(0, 9), NONE);
        S.due("a hitch", x.weather(0, 10), 0);
        x.cut(1);
        S.due("UNDONE", x.weather(1, 19), 6);
    }

    private static void weatherBad() {
        KnotLaw x = Checks.told("h5,h9/0,h1");
        S.allDue("clause", v -> x.weather(v, 9), BAD, NO_CLAUSE);
        S.allDue("f", v -> x.weather(0, v), BAD, NO_FORCE);
        S.due("NONE", x.weather(0, 4), NONE);
        S.due("0", Checks.told("g1").weather(0, 0), 0);
        S.due("99", x.weather(0, 99), 0);
    }

    private static void likely(String when, KnotLaw x, int[] call, int above, int below) {
        S.due(when + ": above", x.rotten(call[0], call[1], call[2], 0), above);
        S.due(when + ": below", x.rotten(call[0], call[1], call[2], 1), below);
    }

    private static void rottenTenths() {
        KnotLaw x = Checks.told("h5,h9/0");
        S.allDue("c", v -> x.rotten(0, 9, v, 0), BAD, -1, 11, MIN, MAX);
        likely("0 of 10, it falls", x, new int[] {0, 5, 0}, 1, 1);
        likely("0 of 10, too weak", x, new int[] {0, 4, 0}, 0, 1);
        likely("0 of 10, barred", x, new int[] {1, 99, 0}, 0, 1);
        likely("10 of 10, too weak", x, new int[] {0, 4, 10}, 1, 1);
        likely("10 of 10, barred", x, new int[] {1, 0, 10}, 1, 1);
        likely("1 of 10", x, new int[] {0, 4, 1}, 1, 10);
        likely("9 of 10", x, new int[] {0, 4, 9}, 9, 10);
        likely("9 of 10, barred", x, new int[] {1, 9, 9}, 99, 100);
        likely("9 of 10, barred, too weak", x, new int[] {1, 8, 9}, 9, 10);
    }

    private static void rottenLowestTerms() {
        KnotLaw x = Checks.told(LOOSE + "/0123456");
        int[][] want = {{0, 1}, {1, 10}, {1, 5}, {3, 10}, {2, 5}, {1, 2}, {3, 5}, {7, 10}, {4, 5}, {9, 10}, {1, 1}};
        for (int c = 0; c <= 10; c++) {
            likely(c + " of 10", x, new int[] {7, 0, c}, want[c][0], want[c][1]);
        }
        likely("the greatest below", x, new int[] {7, 1, 1}, 10000009, 100000000);
        likely("by 9", x, new int[] {7, 1, 9}, 94782969, 100000000);
        likely("by 5: twos alone", x, new int[] {7, 1, 5}, 129, 256);
        likely("by 2: fives alone", x, new int[] {7, 1, 2}, 78129, 390625);
        // Above has one five more than below: 625 of 1000.
        likely("fives are left above", Checks.told("h1,h1,h1/01"), new int[] {2, 1, 5}, 5, 8);
        likely("none: 0 by 1", x, new int[] {7, 1, 0}, 0, 1);
        likely("all: 1 by 1", x, new int[] {7, 1, 10}, 1, 1);
    }

    private static void rottenUndone() {
        KnotLaw x = Checks.told("h5,h9/0");
        x.cut(1);
        likely("UNDONE already", x, new int[] {1, 0, 0}, 1, 1);
        likely("UNDONE already", x, new int[] {1, 0, 7}, 1, 1);
        x.tie(1);
        x.cut(0);
        likely("what bars it UNDONE already", x, new int[] {1, 9, 0}, 1, 1);
        likely("what bars it UNDONE already, too weak", x, new int[] {1, 8, 3}, 3, 10);
        // What bars the one that bars it is of no account: one pull comes, no second one.
        KnotLaw y = Checks.told("h1,h1/0,h1/1");
        likely("the third of a row", y, new int[] {2, 1, 5}, 3, 4);
    }

    private static void rottenBad() {
        KnotLaw x = Checks.told("h5,h9/0,h1");
        S.allDue("clause", v -> x.rotten(v, 9, 1, 0), BAD, NO_CLAUSE);
        S.allDue("f", v -> x.rotten(0, v, 1, 0), BAD, NO_FORCE);
        S.allDue("what", v -> x.rotten(0, 9, 1, v), BAD, NO_FLAG);
        S.allDue("c", v -> x.rotten(0, 9, v, 1), BAD, -1, 11, MIN, MAX);
        x.cut(0);
        S.allDue("f, UNDONE", v -> x.rotten(0, v, 1, 0), BAD, NO_FORCE);
        S.allDue("c, UNDONE", v -> x.rotten(0, 9, v, 1), BAD, -1, 11, MIN, MAX);
        S.allDue("what, UNDONE", v -> x.rotten(0, 9, 1, v), BAD, NO_FLAG);
    }

    // ---- images

    private static void imageKeepsAllBut() {
        KnotLaw x = Twins.midway();
        String rope = Twins.rope(Twins.midway());
        S.due("image", x.image(), 1);
        S.due("a second one in its place", x.image(), 1);
        Checks.tell(x, "x");
        Checks.tell(x, "h1,h2,h3,h4,h5,h6");
        Rows.type(x, "s9");
        x.sheet(0, 3, 7);
        x.drop(1);
        S.due("restore", x.restore(), 1);
        S.due("the SHEET of now", x.drop(0), 7);
        S.due("no SHEET of then", x.drop(1), KnotLaw.NULL);
        S.due("THE TAPE of now", x.type(' '), 3);
        S.due("the rope of then", Twins.rope(x), rope);
        T.unchangedBut("image()", Twins::midway, KnotLaw::image, 1, List.of("the image's rope", "the image's acts"));
    }

    private static void restoreAll() {
        KnotLaw x = Twins.full();
        x.image();
        String rope = Twins.rope(Twins.full());
        String acts = Twins.acts(Twins.full());
        x.agreement();
        Checks.tell(x, "h1");
        S.due("restore", x.restore(), 1);
        S.due("the rope", Twins.rope(x), rope);
        Checks.tell(x, "h1");
        for (int k = 0; k < 9; k++) {
            x.seed(100 + k);
            x.days(1);
        }
        S.due("restore", x.restore(), 1);
        S.due("what may be taken back", Twins.acts(x), acts);
        S.due("restore, once more", x.restore(), 1);
        S.due("what may be taken back", Twins.acts(x), acts);
        KnotLaw y = new KnotLaw();
        y.image();
        Checks.tell(y, LOOSE);
        y.days(5);
        y.seed(9);
        S.due("an IMAGE of no clauses", y.restore(), 1);
        S.due("no clauses", Twins.rope(y), Twins.rope(new KnotLaw()));
    }

    private static void noImage() {
        KnotLaw x = new KnotLaw();
        S.due("a new object", x.restore(), NONE);
        Checks.tell(x, "h1");
        x.days(3);
        S.due("none yet", x.restore(), NONE);
        S.due("nothing is changed", x.count(1), 3);
        x.image();
        S.due("there is one", x.restore(), 1);
        S.due("and stays", x.restore(), 1);
        S.due("not of another object", new KnotLaw().restore(), NONE);
    }
}
