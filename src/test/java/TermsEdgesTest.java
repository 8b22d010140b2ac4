import java.util.List;
import java.util.function.ToIntFunction;

/** The edges that the document's first lines and the block ==== 1 of its terms name, a test for each sentence. */
public final class TermsEdgesTest {
    private static final int MIN = Sentences.MIN;
    private static final int MAX = Sentences.MAX;
    private static final int[] NO_CLAUSE = {-1, 8, 9, 31, 32, 39, 64, MIN, MAX};
    private static final Sentences S = new Sentences("TermsEdgesTest");
    private static final Twins T = new Twins(S);

    public static void main(String[] args) {
        S.holds("What it is", "at most 512 calls after it has been made", TermsEdgesTest::calls512);
        firstLines();
        clauses();
        firmness();
        whatUndoes();
        S.end();
    }

    private static void firstLines() {
        S.holds("Terms", "of several the first that a call names", TermsEdgesTest::firstThatIsNamed);
        S.holds("Terms", "BAD -1 (a number is not as told, there is no such thing)", TermsEdgesTest::answersBelowZero);
        S.holds("Terms", "CAST -12 (of SHEETS another LANE)", TermsEdgesTest::anotherLane);
        S.holds("Terms", "(NULL, CAST, INDEX, SIZE in this order)", TermsEdgesTest::machinesOrder);
        S.holds("Terms", "What is refused changes nothing", TermsEdgesTest::refusedChangesNothing);
        S.holds("Terms", "What is refused changes nothing, but as told.", TermsEdgesTest::faultEmptiesTheTape);
        S.holds("Terms", "Sets are bits.", TermsEdgesTest::setsAreBits);
        S.holds("Terms", "What is divided is cut.", TermsEdgesTest::dividedIsCut);
    }

    private static void clauses() {
        S.holds("1", "CLAUSES 0 .. 7, as they come", TermsEdgesTest::eightClauses);
        S.holds("1", "HOLD by 1 .. 20", TermsEdgesTest::holds1To20);
        S.holds("1", "are BARRED by some CLAUSES of lesser numbers (a set)", TermsEdgesTest::barredByLesserNumbers);
        S.holds("1", "OWED by a PARTY (0 .. 3)", TermsEdgesTest::parties0To3);
        S.holds("1", "TIED (at first) or UNDONE", TermsEdgesTest::tiedAtFirst);
        S.holds("1", "It is DRY (0, at first) or WET (1)", TermsEdgesTest::dryAtFirst);
        S.holds("1", "DAY 0 at first; there were 0 WARS", TermsEdgesTest::noDayNorWarAtFirst);
        S.holds("1", "if it is TIED and all by which it is BARRED are UNDONE", TermsEdgesTest::freeWhenAllAreUndone);
    }

    private static void firmness() {
        S.holds("1", "0 HITCH: as it HOLDS, twice as much if it is WET",
            () -> firmIs(0, new int[] {1, 2}, new int[] {2, 4}, new int[] {19, 38}, new int[] {20, 40}));
        S.holds("1", "1 SPLICE: 10 more",
            () -> firmIs(1, new int[] {11, 12}, new int[] {12, 14}, new int[] {29, 48}, new int[] {30, 50}));
        S.holds("1", "2 SLIP (below HITCH): half as FIRM (cut)",
            () -> firmIs(2, new int[] {0, 1}, new int[] {1, 2}, new int[] {9, 19}, new int[] {10, 20}));
        S.holds("1", "as SPLICE, and 1 more for each 10 DAYS (DAY by 10)", TermsEdgesTest::oathByDays);
        S.holds("1", "0 on DAYS that are a multiple of 7 (0, too)", TermsEdgesTest::grannyByDays);
    }

    private static void whatUndoes() {
        S.holds("1", "all CLAUSES that are FREE ahead of it", TermsEdgesTest::freeAheadOfThePull);
        S.holds("1", "and are FIRM by f or less, are UNDONE at once", TermsEdgesTest::firmByForLess);
        S.holds("1", "a CLAUSE that is TIED is UNDONE, whatever bars it; it is a WAR more", TermsEdgesTest::cutIsWar);
        S.holds("1", "TIED again: one that is UNDONE is TIED", TermsEdgesTest::tiedAgain);
        S.holds("1", "as long as a CLAUSE that it OWES is TIED", TermsEdgesTest::boundUntilTheLast);
    }

    // ---- the first lines

    private static void calls512() {
        KnotLaw x = new KnotLaw();
        S.due("clause", x.clause(0, 1, 0, 0), 0);
        for (int k = 0; k < 255; k++) {
            S.due("cut " + k, x.cut(0), 0);
            S.due("tie " + k, x.tie(0), 1);
        }
        S.due("the 512th call", x.count(6), 255);
        KnotLaw y = Checks.told("g1,o20");
        for (int k = 0; k < 252; k++) {
            S.due("days " + k, y.days(39), 39 * k + 39);
            S.due("felt " + k, y.felt(0, 0, 0, 0, 1, 0), KnotLaw.NULL);
        }
        S.due("the 512th call", y.of(1, 6), 30 + 982);
    }

    private static void firstThatIsNamed() {
        KnotLaw x = Twins.full();
        S.due("clause: BAD, FULL", x.clause(5, 1, 0, 0), -1);
        S.due("clause: BAD, FULL", x.clause(0, 21, 0, 0), -1);
        S.due("clause: BAD, FULL", x.clause(0, 1, 256, 0), -1);
        S.due("clause: BAD, FULL", x.clause(0, 1, 0, 4), -1);
        S.due("type: BAD, FULL", x.type(127), -1);
        S.due("days: BAD, FULL", x.days(100), -1);
        S.due("drift: BAD, FULL", x.drift(41), -1);
        S.due("ahead: BAD, NOT", x.ahead(4, 4, 0), -1);
        S.due("ahead: BAD, NOT", x.ahead(4, 2, 2), -1);
        S.due("ahead: BAD, NOT", x.ahead(4, 8, 0), -1);
        S.due("game: BAD, NONE", x.game(2, 1), -1);
        S.due("cuts: BAD ahead of NONE", x.cuts(4, 100, 0), -1);
        S.due("cuts: BAD ahead of NONE", x.cuts(4, 9, 2), -1);
        S.due("pulls: BAD ahead of 0", x.pulls(4, 100), -1);
        S.due("force: BAD ahead of 0", x.force(4, 9), -1);
        KnotLaw y = Twins.midway();
        S.due("sheet: BAD, SIZE", y.sheet(4, 0, -1), -1);
        S.due("sheet: BAD, SIZE", y.sheet(0, 4, -1), -1);
        S.due("felt: BAD, NULL", y.felt(0, 2, 0, -1, 7, 0), -1);
        S.due("felt: INDEX, NOT", y.felt(0, 3, 0, 2, 2, 0), -13);
        S.due("film: BAD, NULL", y.film(100, 1, 2, 0, -1), -1);
        S.due("item: BAD, NULL", y.item(2, 4, -1, 0), -1);
        S.due("copy: BAD, NULL", y.copy(2, 0, 4, 0, 1), -1);
        S.due("copy: BAD, NULL", y.copy(4, 0, 2, 0, 1), -1);
    }

    private static void answersBelowZero() {
        KnotLaw x = Twins.midway();
        S.due("BAD: a number is not as told", x.pull(100), -1);
        S.due("BAD: there is no such thing", x.cut(5), -1);
        S.due("NOT", x.tie(1), -2);
        S.due("FULL", Twins.full().type('h'), -3);
        S.due("NONE", new KnotLaw().undo(), -4);
        S.due("NULL", x.drop(2), -11);
        S.due("CAST", x.item(0, 1, 0, 0), -12);
        S.due("INDEX", x.item(0, 0, 6, 0), -13);
        S.due("SIZE", x.sheet(0, 0, -1), -14);
        int[] told = {KnotLaw.BAD, KnotLaw.NOT, KnotLaw.FULL, KnotLaw.NONE, KnotLaw.NULL, KnotLaw.CAST, KnotLaw.INDEX,
            KnotLaw.SIZE};
        int[] want = {-1, -2, -3, -4, -11, -12, -13, -14};
        for (int k = 0; k < want.length; k++) {
            S.due("constant " + k, told[k], want[k]);
        }
    }

    private static void anotherLane() {
        KnotLaw x = Twins.midway();
        for (int lane = 1; lane < 4; lane++) {
            S.due("felt", x.felt(0, 0, lane, 0, 1, 0), -12);
            S.due("film", x.film(0, 1, 0, lane, 0), -12);
            S.due("item", x.item(0, lane, 0, 0), -12);
        }
        S.due("copy", x.copy(0, 0, 1, 0, 1), -12);
        S.due("copy", x.copy(1, 0, 0, 0, 1), -12);
        S.due("the same LANE", x.copy(0, 0, 3, 0, 1), 1);
    }

    private static void machinesOrder() {
        KnotLaw x = Twins.midway();
        S.due("felt: NULL, CAST, INDEX", x.felt(0, 2, 0, -1, 1, 0), -11);
        S.due("felt: CAST, INDEX", x.felt(0, 0, 1, -1, 1, 0), -12);
        S.due("felt: INDEX", x.felt(0, 0, 0, -1, 1, 0), -13);
        S.due("film: NULL, CAST, INDEX", x.film(0, 1, 2, 0, -1), -11);
        S.due("film: CAST, INDEX", x.film(0, 1, 0, 1, -1), -12);
        S.due("film: INDEX", x.film(0, 1, 0, 0, -1), -13);
        S.due("item: NULL, CAST, INDEX", x.item(2, 0, -1, 0), -11);
        S.due("item: CAST, INDEX", x.item(0, 1, -1, 0), -12);
        S.due("item: INDEX", x.item(0, 0, -1, 0), -13);
        S.due("copy: NULL of the first, INDEX", x.copy(2, -1, 0, -1, 1), -11);
        S.due("copy: NULL of the other, INDEX", x.copy(0, -1, 2, -1, 1), -11);
        S.due("copy: CAST, INDEX", x.copy(0, -1, 1, -1, 1), -12);
        S.due("copy: INDEX", x.copy(0, -1, 3, -1, 1), -13);
    }

    private static void refusedChangesNothing() {
        refusedOfClauses();
        refusedOfWhatIsDone();
        refusedOfForetold();
        refusedOfSheets();
    }

    private static void refusedOfClauses() {
        T.refused("clause(5, 1, 0, 0)", x -> x.clause(5, 1, 0, 0), -1);
        T.refused("clause(0, 21, 0, 0)", x -> x.clause(0, 21, 0, 0), -1);
        T.refused("clause(0, 1, 32, 0)", x -> x.clause(0, 1, 32, 0), -1);
        T.refused("clause(0, 1, 0, 4)", x -> x.clause(0, 1, 0, 4), -1);
        T.refusedWhenFull("clause(0, 1, 0, 0)", x -> x.clause(0, 1, 0, 0), -3);
        T.refused("of(5, 0)", x -> x.of(5, 0), -1);
        T.refused("of(0, 7)", x -> x.of(0, 7), -1);
        T.refused("party(4, 0)", x -> x.party(4, 0), -1);
        T.refused("party(0, 2)", x -> x.party(0, 2), -1);
        T.refused("owe(5, 0)", x -> x.owe(5, 0), -1);
        T.refused("owe(0, 4)", x -> x.owe(0, 4), -1);
        T.refused("owe(0, -1)", x -> x.owe(0, -1), -1);
        T.refused("type(31)", x -> x.type(31), -1);
        T.refused("type(127)", x -> x.type(127), -1);
        T.refusedWhenFull("type('h')", x -> x.type('h'), -3);
        T.refused("count(8)", x -> x.count(8), -1);
    }

    private static void refusedOfWhatIsDone() {
        T.refused("pull(-1)", x -> x.pull(-1), -1);
        T.refused("pull(100)", x -> x.pull(100), -1);
        T.refused("cut(5)", x -> x.cut(5), -1);
        T.refused("cut(0)", x -> x.cut(0), -2);
        T.refused("tie(5)", x -> x.tie(5), -1);
        T.refused("tie(1)", x -> x.tie(1), -2);
        T.refused("wet(2)", x -> x.wet(2), -1);
        T.refused("wet(1)", x -> x.wet(1), -2);
        T.refused("days(0)", x -> x.days(0), -1);
        T.refused("days(100)", x -> x.days(100), -1);
        T.refusedWhenFull("days(1)", x -> x.days(1), -3);
        T.refused("drift(0)", x -> x.drift(0), -1);
        T.refused("drift(41)", x -> x.drift(41), -1);
        T.refusedWhenFull("drift(1)", x -> x.drift(1), -3);
        T.unchanged("drift(40)", TermsEdgesTest::day9960, x -> x.drift(40), -3);
        T.unchanged("undo()", TermsEdgesTest::nothingToTakeBack, KnotLaw::undo, -4);
        T.refused("seed(-1)", x -> x.seed(-1), -1);
    }

    private static KnotLaw nothingToTakeBack() {
        KnotLaw x = Twins.midway();
        x.clause(0, 1, 0, 0);
        return x;
    }

    private static KnotLaw day9960() {
        KnotLaw x = Twins.midway();
        for (int k = 0; k < 100; k++) {
            x.days(99);
        }
        x.days(57);
        return x;
    }

    private static void refusedOfForetold() {
        T.refused("falls(100)", x -> x.falls(100), -1);
        T.refused("pulls(5, 0)", x -> x.pulls(5, 0), -1);
        T.refused("pulls(1, 9)", x -> x.pulls(1, 9), -4);
        T.refused("force(0, 9)", x -> x.force(0, 9), -1);
        T.unchanged("force(4, 1)", () -> Checks.told("h1,h1/0,h1,h1,h1/1"), x -> x.force(4, 1), -4);
        T.refused("needs(5)", x -> x.needs(5), -1);
        T.refused("frees(4, 0)", x -> x.frees(4, 0), -1);
        T.refused("orders(-2)", x -> x.orders(-2), -1);
        T.refused("orders(2)", x -> x.orders(2), -4);
        T.refused("ahead(1, 1, 0)", x -> x.ahead(1, 1, 0), -1);
        T.refused("ahead(0, 1, 0)", x -> x.ahead(0, 1, 0), -2);
        T.refused("game(0, 2)", x -> x.game(0, 2), -1);
        T.refused("game(0, 1)", x -> x.game(0, 1), -4);
        T.refused("cuts(0, 100, 0)", x -> x.cuts(0, 100, 0), -1);
        T.refused("cuts(0, 99, 0)", x -> x.cuts(0, 99, 0), -4);
        T.refused("weather(5, 0)", x -> x.weather(5, 0), -1);
        T.refused("weather(1, 9)", x -> x.weather(1, 9), -4);
        T.refused("rotten(1, 9, 11, 0)", x -> x.rotten(1, 9, 11, 0), -1);
        T.unchanged("restore()", TermsEdgesTest::noImage, KnotLaw::restore, -4);
    }

    private static KnotLaw noImage() {
        KnotLaw x = Checks.told("h5,s3/0@1,l9@2");
        x.days(3);
        x.cut(1);
        x.seed(5);
        Rows.lay(x, 0, 0, 1, 2, 3);
        Rows.type(x, "s3,l4/0@");
        return x;
    }

    private static void refusedOfSheets() {
        T.refused("felt(0, 0, 0, 0, 7, 0)", x -> x.felt(0, 0, 0, 0, 7, 0), -1);
        T.refused("felt(0, 2, 0, 0, 1, 0)", x -> x.felt(0, 2, 0, 0, 1, 0), -11);
        T.refused("felt(0, 0, 1, 0, 1, 0)", x -> x.felt(0, 0, 1, 0, 1, 0), -12);
        T.refused("felt(0, 0, 0, 5, 1, 0)", x -> x.felt(0, 0, 0, 5, 1, 0), -13);
        T.refused("felt(0, 3, 0, 2, 1, 0)", x -> x.felt(0, 3, 0, 2, 1, 0), -2);
        T.refused("film(100, 1, 0, 0, 0)", x -> x.film(100, 1, 0, 0, 0), -1);
        T.refused("film(9, 25, 1, 2, 0)", x -> x.film(9, 25, 1, 2, 0), -1);
        T.refused("film(9, 1, 2, 0, 0)", x -> x.film(9, 1, 2, 0, 0), -11);
        T.refused("film(9, 1, 0, 1, 0)", x -> x.film(9, 1, 0, 1, 0), -12);
        T.refused("film(9, 6, 0, 0, 1)", x -> x.film(9, 6, 0, 0, 1), -13);
        T.refused("film(9, 6, 0, 0, -1)", x -> x.film(9, 6, 0, 0, -1), -13);
        T.refused("sheet(0, 0, 25)", x -> x.sheet(0, 0, 25), -1);
        T.refused("sheet(0, 4, 2)", x -> x.sheet(0, 4, 2), -1);
        T.refused("sheet(0, 1, -1)", x -> x.sheet(0, 1, -1), -14);
        T.refused("drop(4)", x -> x.drop(4), -1);
        T.refused("drop(2)", x -> x.drop(2), -11);
        T.refused("item(0, 4, 0, 9)", x -> x.item(0, 4, 0, 9), -1);
        T.refused("item(2, 0, 0, 9)", x -> x.item(2, 0, 0, 9), -11);
        T.refused("item(0, 1, 0, 9)", x -> x.item(0, 1, 0, 9), -12);
        T.refused("item(0, 0, 6, 9)", x -> x.item(0, 0, 6, 9), -13);
        T.refused("copy(4, 0, 0, 0, 1)", x -> x.copy(4, 0, 0, 0, 1), -1);
        T.refused("copy(0, 0, 2, 0, 1)", x -> x.copy(0, 0, 2, 0, 1), -11);
        T.refused("copy(0, 0, 1, 0, 1)", x -> x.copy(0, 0, 1, 0, 1), -12);
        T.refused("copy(0, 0, 3, 0, 5)", x -> x.copy(0, 0, 3, 0, 5), -13);
        T.refused("copy(3, 1, 0, 0, 4)", x -> x.copy(3, 1, 0, 0, 4), -13);
    }

    private static void faultEmptiesTheTape() {
        T.unchangedBut("agreement()", Twins::midway, KnotLaw::agreement, -28, List.of("the tape", "the tape's letters"));
        KnotLaw x = Twins.midway();
        x.agreement();
        S.due("the first letter behind a fault", x.type('h'), 1);
        KnotLaw y = Twins.full();
        S.due("a fault of a hundred letters", y.agreement(), -120);
        S.due("the first letter behind it", y.type('h'), 1);
    }

    private static void setsAreBits() {
        KnotLaw x = Checks.told("h1,h1,h1,h1,h1,h1,h1,h9/0123456@3");
        S.due("BARRED", x.of(7, 2), 127);
        S.due("OWES", x.party(3, 0), 128);
        S.due("TIED", x.count(3), 255);
        S.due("FREE", x.count(4), 127);
        S.due("BOUND", x.count(5), 9);
        S.due("FALLS", x.falls(1), 127);
        S.due("NEEDS", x.needs(7), 127);
        S.due("FREES", x.frees(3, 1), 255);
        S.due("CUTS", x.cuts(7, 9, 1), 127);
        S.due("CUT", x.cut(0), 254);
        S.due("TIED again", x.tie(0), 255);
        S.due("PULL", x.pull(1), 127);
        S.due("PULL", x.pull(9), 128);
        KnotLaw y = Checks.told("h20");
        y.days(1);
        Rows.lay(y, 0, 0, 20, 1, 9, 0);
        S.due("KINDS", y.felt(0, 0, 0, 0, 1, 0), Checks.set(0, 2, 4));
        S.due("HOLD", y.felt(0, 0, 0, 2, 1, 1), Checks.set(10, 11, 12, 13, 14, 15, 16, 17, 18, 19, 20));
    }

    private static void dividedIsCut() {
        KnotLaw x = Checks.told("l1,l19,l20,o1,g1,g19");
        x.days(9);
        int[] day9 = {0, 9, 10, 11, 0, 9};
        for (int c = 0; c < day9.length; c++) {
            S.due("day 9: firm " + c, x.of(c, 6), day9[c]);
        }
        x.days(10);
        S.due("day 19: the oath", x.of(3, 6), 12);
        // 196607 by 65536 is 2 and by 128 is 1535, 5 left over by 30; one more, and it is 3 and 1536, 6 left over.
        KnotLaw y = Checks.told("h5,h6");
        y.seed(1340914462);
        S.due("draw 196607: TIED", y.drift(1), 2);
        S.due("draw 196607: WET", y.count(2), 0);
        KnotLaw z = Checks.told("h3,h4");
        z.seed(1051108995);
        S.due("draw 196608: TIED", z.drift(1), 2);
        S.due("draw 196608: WET", z.count(2), 1);
    }

    // ---- clauses

    private static void eightClauses() {
        KnotLaw x = new KnotLaw();
        for (int c = 0; c < 8; c++) {
            noClause("with " + c, x, c);
            S.due("as they come", x.clause(0, 1, 0, 0), c);
            S.due("there it is", x.of(c, 1), 1);
        }
        S.due("a ninth", x.clause(0, 1, 0, 0), KnotLaw.FULL);
        for (int bad : NO_CLAUSE) {
            noClause("with 8", x, bad);
        }
        S.due("all TIED", x.count(3), 255);
    }

    private static void noClause(String when, KnotLaw x, int bad) {
        for (ToIntFunction<KnotLaw> call : callsOfClause(bad)) {
            S.due(when + ", clause " + bad, call.applyAsInt(x), KnotLaw.BAD);
        }
    }

    private static List<ToIntFunction<KnotLaw>> callsOfClause(int c) {
        return List.of(x -> x.of(c, 0), x -> x.owe(c, 0), x -> x.cut(c), x -> x.tie(c), x -> x.pulls(c, 9),
            x -> x.force(c, 1), x -> x.needs(c), x -> x.ahead(c, 0, 0), x -> x.ahead(0, c, 0), x -> x.cuts(c, 9, 0),
            x -> x.weather(c, 9), x -> x.rotten(c, 9, 5, 0), x -> x.felt(c, 0, 0, 0, 1, 0));
    }

    private static void holds1To20() {
        S.allDue("holds", v -> new KnotLaw().clause(0, v, 0, 0), KnotLaw.BAD, 0, 21, -1, 100, MIN, MAX);
        S.allDue("holds", v -> new KnotLaw().clause(4, v, 0, 0), KnotLaw.BAD, 0, 21);
        S.allDue("holds", v -> new KnotLaw().clause(0, v, 0, 0), 0, 1, 2, 19, 20);
        KnotLaw x = new KnotLaw();
        for (int v = 1; v <= 20; v += 19) {
            S.due("holds as told", x.of(x.clause(0, v, 0, 0), 1), v);
        }
    }

    private static void barredByLesserNumbers() {
        KnotLaw x = new KnotLaw();
        S.due("the first by itself", x.clause(0, 1, 1, 0), KnotLaw.BAD);
        S.due("the first by none", x.clause(0, 1, 0, 0), 0);
        for (int c = 1; c < 8; c++) {
            S.allDue("clause " + c, v -> x.clause(0, 1, v, 0), KnotLaw.BAD, 1 << c, (1 << c) + 1, 1 << c + 1, 256, -1,
                1 << 30, MIN, MIN + 1, MAX);
            S.due("by all lesser ones", x.clause(0, 1, (1 << c) - 1, 0), c);
            S.due("by all lesser ones", x.of(c, 2), (1 << c) - 1);
        }
    }

    private static void parties0To3() {
        KnotLaw x = new KnotLaw();
        S.allDue("clause", v -> x.clause(0, 1, 0, v), KnotLaw.BAD, -1, 4, 32, MIN, MAX);
        for (int p = 0; p < 4; p++) {
            S.due("party " + p, x.clause(0, 1, 0, p), p);
            S.due("party " + p, x.of(p, 3), p);
        }
        S.allDue("owe", v -> x.owe(0, v), KnotLaw.BAD, -1, 4, 32, MIN, MAX);
        S.allDue("party", v -> x.party(v, 0), KnotLaw.BAD, -1, 4, 32, MIN, MAX);
        S.allDue("frees", v -> x.frees(v, 0), KnotLaw.BAD, -1, 4, 32, MIN, MAX);
        S.due("all BOUND", x.count(5), 15);
    }

    private static void tiedAtFirst() {
        KnotLaw x = new KnotLaw();
        S.due("none yet", x.count(3), 0);
        x.clause(0, 1, 0, 0);
        S.due("the first", x.of(0, 4), 1);
        x.pull(1);
        x.clause(0, 1, 1, 0);
        S.due("a later one", x.of(1, 4), 1);
        S.due("which leaves the first UNDONE", x.of(0, 4), 0);
        S.due("all that are TIED", x.count(3), 2);
    }

    private static void dryAtFirst() {
        KnotLaw x = new KnotLaw();
        S.due("DRY", x.count(2), 0);
        S.due("DRY it is", x.wet(0), KnotLaw.NOT);
        S.due("WET", x.wet(1), 0);
        S.due("WET", x.count(2), 1);
    }

    private static void noDayNorWarAtFirst() {
        KnotLaw x = new KnotLaw();
        S.due("DAY", x.count(1), 0);
        S.due("WARS", x.count(6), 0);
        S.due("the first day", x.days(1), 1);
    }

    private static void freeWhenAllAreUndone() {
        KnotLaw x = Checks.told("h1,h2,h3/01,h4/2");
        int[][] freeThen = {{-1, 3}, {0, 2}, {1, 4}, {2, 8}, {3, 0}};
        for (int[] step : freeThen) {
            if (step[0] >= 0) {
                x.cut(step[0]);
            }
            S.due("FREE behind " + step[0], x.count(4), step[1]);
            for (int c = 0; c < 4; c++) {
                S.due("FREE " + c + " behind " + step[0], x.of(c, 5), step[1] >> c & 1);
            }
        }
        x.tie(3);
        S.due("TIED again, what bars it is not", x.count(4), 8);
        x.tie(1);
        S.due("what bars it is UNDONE still", x.count(4), 10);
        x.tie(2);
        S.due("what bars it is TIED again", x.count(4), 2);
    }

    // ---- how firm

    /** Dry and wet, holding 1, 2, 19, 20. */
    private static void firmIs(int kind, int[]... want) {
        int[] holds = {1, 2, 19, 20};
        for (int k = 0; k < holds.length; k++) {
            for (int wet = 0; wet < 2; wet++) {
                KnotLaw x = new KnotLaw();
                x.clause(kind, holds[k], 0, 0);
                S.due("wet " + wet, x.wet(wet), wet == 1 ? want[k][1] : KnotLaw.NOT);
                S.due("holds " + holds[k] + ", wet " + wet, x.of(0, 6), want[k][wet]);
                S.due("a pull just too weak", x.falls(Math.max(0, want[k][wet] - 1)), want[k][wet] == 0 ? 1 : 0);
                S.due("a pull just strong enough", x.falls(want[k][wet]), 1);
            }
        }
    }

    private static KnotLaw onDay(String text, int day) {
        KnotLaw x = Checks.told(text);
        for (int left = day; left > 0; left -= 99) {
            x.days(Math.min(left, 99));
        }
        if (x.count(1) != day) {
            throw new IllegalStateException("day " + x.count(1));
        }
        return x;
    }

    private static void oathByDays() {
        int[] days = {0, 1, 9, 10, 11, 19, 20, 99, 100, 9989, 9990, 9999};
        int[] more = {0, 0, 0, 1, 1, 1, 2, 9, 10, 998, 999, 999};
        for (int k = 0; k < days.length; k++) {
            KnotLaw x = onDay("o1,o20", days[k]);
            S.due("DAY " + days[k], x.of(0, 6), 11 + more[k]);
            S.due("DAY " + days[k], x.of(1, 6), 30 + more[k]);
            S.due("WET, together", x.wet(1), 12 + more[k] + 50 + more[k]);
        }
    }

    private static void grannyByDays() {
        int[] days = {0, 1, 6, 7, 8, 13, 14, 15, 9995, 9996, 9997, 9999};
        for (int day : days) {
            boolean isVoid = day == 0 || day == 7 || day == 14 || day == 9996;
            KnotLaw x = onDay("g1,g20", day);
            S.due("DAY " + day, x.of(0, 6), 0);
            S.due("DAY " + day, x.of(1, 6), isVoid ? 0 : 10);
            S.due("a pull of 0", x.falls(0), isVoid ? 3 : 1);
            S.due("WET, together", x.wet(1), isVoid ? 0 : 1 + 20);
        }
    }

    // ---- what undoes

    private static void freeAheadOfThePull() {
        KnotLaw x = Checks.told("h1,h1/0,h1/1,h1/2,h1/3,h1/4,h1/5,h1/6");
        for (int c = 0; c < 8; c++) {
            S.due("one by one", x.pull(99), 1 << c);
        }
        S.due("nothing left", x.pull(99), 0);
        KnotLaw y = Checks.told("h1,h1,h1,h1,h1,h1,h1,h1");
        S.due("all at once", y.pull(1), 255);
    }

    private static void firmByForLess() {
        KnotLaw x = Checks.told("h20,s10,l20,o10,g20");
        S.due("0", x.pull(0), Checks.set(4));
        S.due("9", x.pull(9), 0);
        S.due("10", x.pull(10), Checks.set(2));
        S.due("19", x.pull(19), 0);
        S.due("20", x.pull(20), Checks.set(0, 1, 3));
        KnotLaw y = onDay("o20", 699);
        S.due("firm by 99", y.falls(99), 1);
        S.due("98", y.falls(98), 0);
        KnotLaw z = onDay("o20", 700);
        S.due("firm by 100", z.falls(99), 0);
    }

    private static void cutIsWar() {
        KnotLaw x = Checks.told("h20,o20/0,o20/1");
        x.wet(1);
        S.due("barred twice", x.cut(2), 3);
        S.due("a war", x.count(6), 1);
        S.due("what bars stays TIED", x.of(0, 4), 1);
        S.due("barred", x.cut(1), 1);
        S.due("free", x.cut(0), 0);
        S.due("wars", x.count(6), 3);
        S.due("UNDONE already", x.cut(0), KnotLaw.NOT);
        S.due("no war of that", x.count(6), 3);
    }

    private static void tiedAgain() {
        KnotLaw x = Checks.told("h1,h1/0");
        S.due("never undone", x.tie(0), KnotLaw.NOT);
        x.pull(1);
        x.cut(1);
        S.due("undone by a pull", x.tie(0), 1);
        S.due("undone by a cut", x.tie(1), 3);
        S.due("barred again", x.of(1, 5), 0);
        S.due("the war was one", x.count(6), 1);
    }

    private static void boundUntilTheLast() {
        KnotLaw x = Checks.told("h1@1,h2@1,h3@3");
        S.due("owes none", x.party(0, 1), 0);
        S.due("owes two", x.party(1, 1), 1);
        x.cut(0);
        S.due("owes one that is TIED", x.party(1, 1), 1);
        S.due("BOUND", x.count(5), 10);
        x.cut(1);
        S.due("owes none that is TIED", x.party(1, 1), 0);
        S.due("BOUND", x.count(5), 8);
        x.tie(0);
        S.due("TIED again", x.party(1, 1), 1);
        x.owe(0, 0);
        S.due("owed by another", x.party(1, 1), 0);
        S.due("who is BOUND then", x.count(5), 9);
    }
}
