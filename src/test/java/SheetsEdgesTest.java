import java.util.List;

/** The edges that promises 31 to 36 and the terms of FELT and of sheets name, a test for each sentence. */
public final class SheetsEdgesTest {
    private static final int MIN = Sentences.MIN;
    private static final int MAX = Sentences.MAX;
    private static final int BAD = KnotLaw.BAD;
    private static final int NULL = KnotLaw.NULL;
    private static final int CAST = KnotLaw.CAST;
    private static final int INDEX = KnotLaw.INDEX;
    private static final int[] NO_SHEET = {-1, 4, 5, MIN, MAX};
    private static final int ALL_HOLDS = 0x1ffffe;
    private static final Sentences S = new Sentences("SheetsEdgesTest");
    private static final Twins T = new Twins(S);

    public static void main(String[] args) {
        rows();
        felt();
        film();
        items();
        S.end();
    }

    private static void rows() {
        S.holds("Terms", "sheets 0 .. 3: nothing (at first)", SheetsEdgesTest::nothingAtFirst);
        S.holds("Terms", "or a row of a LANE: 0 bytes, 1 shorts, 2 ints, 3 longs", SheetsEdgesTest::fourLanes);
        S.holds("Terms", "of 0 to 24 items", SheetsEdgesTest::items0To24);
        S.holds("Promise 33", "A SHEET holds a new row of a LANE: n.", SheetsEdgesTest::newRow);
        S.holds("Promise 33", "BAD: also n above 24", SheetsEdgesTest::sheetBad);
        S.holds("Promise 33", "SIZE: n below 0.", SheetsEdgesTest::sheetSize);
        S.holds("Promise 34", "A SHEET holds nothing: how many items it had.", SheetsEdgesTest::dropHowMany);
        S.holds("Promise 34", "how many items it had. BAD; NULL.", SheetsEdgesTest::dropRefused);
    }

    private static void felt() {
        S.holds("3", "FELT: a row tells n pairs (1 .. 6)", SheetsEdgesTest::feltPairs);
        S.holds("3", "a PULL of f (0 .. 99), how many it undid", SheetsEdgesTest::feltHowMany);
        S.holds("3", "one behind the other from now on", SheetsEdgesTest::feltOneBehindTheOther);
        S.holds("3", "KINDS (a set) of a CLAUSE by which it would be so", SheetsEdgesTest::feltKinds);
        S.holds("3", "by how much it might HOLD (1 .. 20, a set of bits 1 .. 20)", SheetsEdgesTest::feltHolds);
        S.holds("Promise 31", "KINDS (what 0), how it might HOLD (1). BAD", SheetsEdgesTest::feltBad);
        S.holds("Promise 31", "two items each of a SHEET taken as a row of a LANE, from item i on",
            SheetsEdgesTest::feltNullCastIndex);
        S.holds("Promise 31", "NOT: an f is not 0 .. 99.", SheetsEdgesTest::feltNot);
    }

    private static void film() {
        S.holds("Promise 32", "How many CLAUSES are TIED behind 1, 2, .. n PULLS (1 .. 24) of f from now on",
            SheetsEdgesTest::filmOfPulls);
        S.holds("Promise 32", "comes to a SHEET likewise: n. BAD", SheetsEdgesTest::filmBad);
        S.holds("Promise 32", "n. BAD; NULL; CAST; INDEX.", SheetsEdgesTest::filmNullCastIndex);
    }

    private static void items() {
        S.holds("Promise 35", "becomes v, its lowest bits: 1", SheetsEdgesTest::lowestBits);
        S.holds("Promise 35", "1. BAD; NULL; CAST; INDEX.", SheetsEdgesTest::itemRefused);
        S.holds("Promise 36", "n items of a SHEET from i on come to another one (or the same) from j on",
            SheetsEdgesTest::copyItems);
        S.holds("Promise 36", "as if all were taken ahead: n", SheetsEdgesTest::copyTakenAhead);
        S.holds("Promise 36", "BAD; NULL (either)", SheetsEdgesTest::copyBadAndNull);
        S.holds("Promise 36", "CAST: of unlike LANES", SheetsEdgesTest::copyCast);
        S.holds("Promise 36", "CAST: of unlike LANES; INDEX.", SheetsEdgesTest::copyIndex);
    }

    // ---- rows

    private static void nothingAtFirst() {
        KnotLaw x = Checks.told("h1");
        for (int s = 0; s < 4; s++) {
            S.due("drop", x.drop(s), NULL);
            S.due("item", x.item(s, 0, 0, 0), NULL);
            S.due("film", x.film(0, 1, s, 0, 0), NULL);
            S.due("felt", x.felt(0, s, 0, 0, 1, 0), NULL);
            S.due("copy, of no items", x.copy(s, 0, s, 0, 0), NULL);
        }
        for (int s = 0; s < 4; s++) {
            S.due("sheet " + s, x.sheet(s, 0, 1), 1);
            S.due("it alone", x.drop(s), 1);
        }
        S.allDue("sheet", v -> x.sheet(v, 0, 1), BAD, NO_SHEET);
        S.allDue("drop", x::drop, BAD, NO_SHEET);
    }

    private static void fourLanes() {
        KnotLaw x = Checks.told("h1");
        S.allDue("lane", v -> x.sheet(0, v, 1), BAD, NO_SHEET);
        for (int s = 0; s < 4; s++) {
            x.sheet(s, s, 2);
            for (int lane = 0; lane < 4; lane++) {
                S.due("a row of lane " + s + " as one of " + lane, x.item(s, lane, 0, 1), lane == s ? 1 : CAST);
            }
            S.allDue("lane", v -> x.item(0, v, 0, 1), BAD, NO_SHEET);
        }
        x.sheet(0, 3, 2);
        S.due("another lane now", x.item(0, 0, 0, 1), CAST);
        S.due("another lane now", x.item(0, 3, 0, 1), 1);
    }

    private static void items0To24() {
        for (int n = 0; n <= 24; n++) {
            KnotLaw x = Checks.told("h1");
            S.due("a row of " + n, x.sheet(3, 3, n), n);
            S.due("the last item", x.item(3, 3, n - 1, 9), n == 0 ? INDEX : 1);
            S.due("the one behind it", x.item(3, 3, n, 9), INDEX);
            if (n > 0) {
                Rows.startReading(x, 3, 3);
                S.due("the last item", Rows.read(x, 3, 3, n - 1), 9);
            }
            S.due("items", x.drop(3), n);
        }
        // Items of one sheet are no items of the next.
        KnotLaw y = Checks.told("h1");
        y.sheet(0, 0, 24);
        Rows.lay(y, 1, 0, 7);
        y.item(0, 0, 23, 5);
        Rows.startReading(y, 1, 0);
        S.due("the next sheet's first item", Rows.read(y, 1, 0, 0), 7);
    }

    private static void newRow() {
        KnotLaw x = Checks.told("h1");
        Rows.lay(x, 1, 0, 5, 6, 7);
        S.due("in place of the old one", x.sheet(1, 0, 3), 3);
        S.due("all items 0", Rows.told(x, 1), Rows.list(0, 0, 0, 0));
        KnotLaw y = Checks.told("h1");
        Rows.lay(y, 1, 0, 5, 6, 7, 8);
        y.sheet(1, 3, 2);
        y.sheet(1, 0, 4);
        S.due("nothing of the old row", Rows.told(y, 1), Rows.list(0, 0, 0, 0, 0));
        KnotLaw z = Checks.told("h1");
        Rows.lay(z, 1, 0, 5, 6);
        z.drop(1);
        z.sheet(1, 0, 2);
        S.due("nothing of the dropped row", Rows.told(z, 1), Rows.list(0, 0, 0));
        T.unchangedBut("sheet(1, 3, 5)", Twins::midway, x2 -> x2.sheet(1, 3, 5), 5, List.of("sheet 1"));
    }

    private static void sheetBad() {
        KnotLaw x = Checks.told("h1");
        x.sheet(0, 0, 7);
        S.allDue("n", v -> x.sheet(0, 0, v), BAD, 25, 26, 100, MAX);
        S.allDue("sheet", v -> x.sheet(v, 0, 7), BAD, NO_SHEET);
        S.allDue("lane", v -> x.sheet(0, v, 7), BAD, NO_SHEET);
        S.due("refused", x.drop(0), 7);
        S.due("24", x.sheet(0, 0, 24), 24);
    }

    private static void sheetSize() {
        KnotLaw x = Checks.told("h1");
        x.sheet(0, 0, 7);
        S.allDue("n", v -> x.sheet(0, 1, v), KnotLaw.SIZE, -1, -2, -25, MIN);
        S.allDue("BAD is named ahead", v -> x.sheet(v, 1, -1), BAD, NO_SHEET);
        S.allDue("BAD is named ahead", v -> x.sheet(1, v, -1), BAD, NO_SHEET);
        S.due("refused", x.drop(0), 7);
        S.due("0", x.sheet(0, 0, 0), 0);
    }

    private static void dropHowMany() {
        KnotLaw x = Checks.told("h1");
        for (int n : new int[] {0, 1, 24}) {
            x.sheet(2, 1, n);
            S.due("items", x.drop(2), n);
            S.due("nothing", x.drop(2), NULL);
            S.due("nothing", x.item(2, 1, 0, 0), NULL);
        }
        T.unchangedBut("drop(1)", Twins::midway, x2 -> x2.drop(1), 24, List.of("sheet 1"));
    }

    private static void dropRefused() {
        KnotLaw x = Checks.told("h1");
        S.allDue("sheet", x::drop, BAD, NO_SHEET);
        S.allDue("sheet", x::drop, NULL, 0, 1, 2, 3);
    }

    // ---- felt

    private static void feltPairs() {
        KnotLaw x = Checks.told("h5,h5/0,h5/1,h5/2,h5/3,h5/4,h5/5");
        Rows.lay(x, 3, 0, 5, 1, 5, 1, 5, 1, 5, 1, 5, 1, 5, 1, 5, 1);
        S.allDue("n", v -> x.felt(5, 3, 0, 0, v, 0), BAD, -1, 0, 7, MIN, MAX, 1 << 30);
        S.due("one pair: the sixth may be anything", x.felt(5, 3, 0, 0, 1, 1), ALL_HOLDS);
        S.due("five pairs", x.felt(5, 3, 0, 0, 5, 1), ALL_HOLDS);
        S.due("six pairs: up to 5", x.felt(5, 3, 0, 0, 6, 1), Checks.set(1, 2, 3, 4, 5));
        S.due("six pairs, from the second on", x.felt(5, 3, 0, 2, 6, 1), Checks.set(1, 2, 3, 4, 5));
        S.due("six pairs do not fit", x.felt(5, 3, 0, 3, 6, 1), INDEX);
    }

    private static void feltHowMany() {
        KnotLaw x = Checks.told("h1,h1,h1,h1,h1,h1,h1,h1");
        Rows.lay(x, 0, 3, 0, 0, 99, 8, 99, 7, 1, 9, 1, -1, 1, (1L << 32) + 8, 1, Long.MIN_VALUE);
        x.days(1);
        S.due("0: none of them", x.felt(0, 0, 3, 0, 1, 0), Checks.set(0, 1, 3));
        S.due("99: all of them", x.felt(0, 0, 3, 2, 1, 0), 31);
        S.due("99: one less", x.felt(0, 0, 3, 4, 1, 0), 0);
        S.due("more than there are", x.felt(0, 0, 3, 6, 1, 0), 0);
        S.due("less than 0", x.felt(0, 0, 3, 8, 1, 0), 0);
        S.due("above an int", x.felt(0, 0, 3, 10, 1, 0), 0);
        S.due("the least long", x.felt(0, 0, 3, 12, 1, 0), 0);
        KnotLaw y = Checks.told("h1");
        y.cut(0);
        Rows.lay(y, 0, 0, 99, 0);
        S.due("nothing TIED", y.felt(0, 0, 0, 0, 1, 0), 31);
        S.due("nothing TIED", y.felt(0, 0, 0, 0, 1, 1), ALL_HOLDS);
    }

    private static void feltOneBehindTheOther() {
        KnotLaw x = Checks.told("h5,h5/0");
        x.days(1);
        Rows.lay(x, 0, 0, 5, 1, 5, 1, 5, 0);
        S.due("the second behind the first", x.felt(1, 0, 0, 0, 3, 1), Checks.set(1, 2, 3, 4, 5));
        Rows.lay(x, 0, 0, 5, 1, 5, 0);
        S.due("it did not fall then", x.felt(1, 0, 0, 0, 2, 1), ALL_HOLDS & ~Checks.set(1, 2, 3, 4, 5));
        x.cut(0);
        S.due("from now on", x.felt(1, 0, 0, 0, 1, 1), Checks.set(1, 2, 3, 4, 5));
        S.due("from now on", x.felt(1, 0, 0, 2, 1, 1), ALL_HOLDS & ~Checks.set(1, 2, 3, 4, 5));
    }

    private static void feltKinds() {
        KnotLaw x = Checks.told("h1");
        Rows.lay(x, 0, 0, 0, 1, 0, 0, 1, 1, 11, 1);
        S.due("DAY 0: a pull of 0", x.felt(0, 0, 0, 0, 1, 0), Checks.set(2, 4));
        S.due("DAY 0: not undone by 0", x.felt(0, 0, 0, 2, 1, 0), Checks.set(0, 1, 3));
        S.due("by 1", x.felt(0, 0, 0, 4, 1, 0), Checks.set(0, 2, 4));
        S.due("by 11", x.felt(0, 0, 0, 6, 1, 0), 31);
        KnotLaw y = Checks.told("s20");
        Rows.lay(y, 0, 0, 0, 1, 10, 1, 20, 1, 30, 1, 29, 1);
        S.due("it HOLDS by 20: a granny alone", y.felt(0, 0, 0, 0, 1, 0), Checks.set(4));
        S.due("a slip", y.felt(0, 0, 0, 2, 1, 0), Checks.set(2, 4));
        S.due("a hitch", y.felt(0, 0, 0, 4, 1, 0), Checks.set(0, 2, 4));
        S.due("all", y.felt(0, 0, 0, 6, 1, 0), 31);
        S.due("just no splice", y.felt(0, 0, 0, 8, 1, 0), Checks.set(0, 2, 4));
    }

    private static void feltHolds() {
        KnotLaw x = Checks.told("h9");
        Rows.lay(x, 0, 0, 1, 1, 20, 1, 19, 0, 20, 0, 0, 1, 0, 0);
        S.due("1 alone", x.felt(0, 0, 0, 0, 1, 1), 2);
        S.due("all", x.felt(0, 0, 0, 2, 1, 1), ALL_HOLDS);
        S.due("20 alone", x.felt(0, 0, 0, 4, 1, 1), 1 << 20);
        S.due("none", x.felt(0, 0, 0, 6, 1, 1), 0);
        S.due("none of 0", x.felt(0, 0, 0, 8, 1, 1), 0);
        S.due("all but 0", x.felt(0, 0, 0, 10, 1, 1), ALL_HOLDS);
        x.wet(1);
        S.due("WET: up to 10", x.felt(0, 0, 0, 2, 1, 1), 0x7fe);
    }

    private static void feltBad() {
        KnotLaw x = Checks.told("h5,h9/0,h1");
        Rows.lay(x, 0, 0, 5, 1);
        S.allDue("clause", v -> x.felt(v, 0, 0, 0, 1, 0), BAD, -1, 3, 8, 32, MIN, MAX);
        S.allDue("sheet", v -> x.felt(0, v, 0, 0, 1, 0), BAD, NO_SHEET);
        S.allDue("lane", v -> x.felt(0, 0, v, 0, 1, 0), BAD, NO_SHEET);
        S.allDue("n", v -> x.felt(0, 0, 0, 0, v, 0), BAD, -1, 0, 7, MIN, MAX);
        S.allDue("what", v -> x.felt(0, 0, 0, 0, 1, v), BAD, -1, 2, MIN, MAX);
        S.allDue("BAD ahead of NULL: clause", v -> x.felt(v, 1, 0, 0, 1, 0), BAD, -1, 3, 8);
        S.allDue("BAD ahead of NULL: what", v -> x.felt(0, 1, 0, 0, 1, v), BAD, -1, 2);
        S.allDue("BAD ahead of INDEX: n", v -> x.felt(0, 0, 0, 0, v, 0), BAD, 7, 0);
    }

    private static void feltNullCastIndex() {
        KnotLaw x = Checks.told("h5");
        Rows.lay(x, 0, 1, 5, 1, 5, 0, 5);
        S.due("NULL", x.felt(0, 1, 1, 0, 1, 0), NULL);
        S.allDue("CAST", v -> x.felt(0, 0, v, 0, 1, 0), CAST, 0, 2, 3);
        S.allDue("INDEX, one pair", v -> x.felt(0, 0, 1, v, 1, 0), INDEX, -1, 4, 5, 6, MIN, MAX, MAX - 1);
        S.allDue("INDEX, two pairs", v -> x.felt(0, 0, 1, v, 2, 0), INDEX, -1, 2, 3, MIN, MAX, MAX - 3);
        S.allDue("INDEX, three pairs", v -> x.felt(0, 0, 1, v, 3, 0), INDEX, 0, 1, -1, MAX - 5);
        S.due("the first pair", x.felt(0, 0, 1, 0, 1, 1), 62);
        S.due("the last that fits", x.felt(0, 0, 1, 3, 1, 1), 0);
        S.due("two pairs", x.felt(0, 0, 1, 0, 2, 1), 62);
        x.sheet(2, 1, 0);
        S.due("a row of no items", x.felt(0, 2, 1, 0, 1, 0), INDEX);
    }

    private static void feltNot() {
        KnotLaw x = Checks.told("h1");
        Rows.lay(x, 0, 3, 99, 1, 100, 1, -1, 1, 0, 0, 1L << 32, 0, Long.MAX_VALUE, 0, Long.MIN_VALUE, 0);
        S.due("99", x.felt(0, 0, 3, 0, 1, 0), 31);
        S.due("100", x.felt(0, 0, 3, 2, 1, 0), KnotLaw.NOT);
        S.due("-1", x.felt(0, 0, 3, 4, 1, 0), KnotLaw.NOT);
        S.due("0", x.felt(0, 0, 3, 6, 1, 1), ALL_HOLDS);
        S.due("above an int", x.felt(0, 0, 3, 8, 1, 0), KnotLaw.NOT);
        S.due("the greatest long", x.felt(0, 0, 3, 10, 1, 0), KnotLaw.NOT);
        S.due("the least long", x.felt(0, 0, 3, 12, 1, 0), KnotLaw.NOT);
        S.due("the second of two", x.felt(0, 0, 3, 0, 2, 0), KnotLaw.NOT);
        S.due("the last of three, what 1", x.felt(0, 0, 3, 0, 3, 1), KnotLaw.NOT);
        S.due("the sixth, behind pairs that are not so", lastOfSix(), KnotLaw.NOT);
        S.due("an f behind the pairs is not looked at", x.felt(0, 0, 3, 0, 1, 1), ALL_HOLDS);
        S.due("INDEX is named ahead", x.felt(0, 0, 3, 10, 3, 0), INDEX);
    }

    private static int lastOfSix() {
        KnotLaw x = Checks.told("h1");
        Rows.lay(x, 0, 0, 0, 9, 0, 9, 0, 9, 0, 9, 0, 9, 100, 9);
        return x.felt(0, 0, 0, 0, 6, 0);
    }

    // ---- film

    private static void filmOfPulls() {
        KnotLaw x = Checks.told("h1,h1/0,h1/1,h1/2,h1/3,h1/4,h1/5,h1/6");
        x.sheet(1, 0, 24);
        S.due("24 of them", x.film(1, 24, 1, 0, 0), 24);
        S.due("a row of 24", Rows.told(x, 1),
            Rows.list(0, 7, 6, 5, 4, 3, 2, 1, 0, 0, 0, 0, 0, 0, 0, 0, 0, 0, 0, 0, 0, 0, 0, 0, 0));
        KnotLaw y = Checks.told("h1,h9");
        Rows.lay(y, 1, 3, 5, 5, 5);
        S.due("one pull", y.film(8, 1, 1, 3, 1), 1);
        S.due("one item, no other", Rows.told(y, 1), Rows.list(3, 5, 1, 5));
        KnotLaw z = new KnotLaw();
        Rows.lay(z, 1, 2, 5, 5);
        S.due("no clauses", z.film(0, 2, 1, 2, 0), 2);
        S.due("nothing TIED", Rows.told(z, 1), Rows.list(2, 0, 0));
        KnotLaw w = Checks.told("h1,h1,h1,h1,h1,h1,h1,h1");
        Rows.lay(w, 1, 1, 5, 5);
        S.due("too weak", w.film(0, 2, 1, 1, 0), 2);
        S.due("all TIED", Rows.told(w, 1), Rows.list(1, 8, 8));
        KnotLaw u = Checks.told("h1,h1/0,h1/1,h9,h1");
        u.cut(0);
        u.cut(4);
        Rows.lay(u, 1, 0, 5, 5, 5);
        u.film(1, 3, 1, 0, 0);
        S.due("from now on: what is UNDONE is not counted, nor does it bar", Rows.told(u, 1), Rows.list(0, 2, 1, 1));
        // A granny that is not void now does not become so on the way: no DAY goes by.
        KnotLaw v = Checks.told("g20");
        v.days(1);
        Rows.lay(v, 1, 0, 5, 5, 5, 5, 5, 5, 5, 5);
        v.film(9, 8, 1, 0, 0);
        S.due("DAY as now", Rows.told(v, 1), Rows.list(0, 1, 1, 1, 1, 1, 1, 1, 1));
    }

    private static void filmBad() {
        KnotLaw x = Checks.told("h1,h1/0");
        x.sheet(0, 0, 24);
        S.allDue("f", v -> x.film(v, 1, 0, 0, 0), BAD, -1, 100, MIN, MAX);
        S.allDue("n", v -> x.film(0, v, 0, 0, 0), BAD, -1, 0, 25, MIN, MAX);
        S.allDue("sheet", v -> x.film(0, 1, v, 0, 0), BAD, NO_SHEET);
        S.allDue("lane", v -> x.film(0, 1, 0, v, 0), BAD, NO_SHEET);
        S.allDue("BAD ahead of NULL: f", v -> x.film(v, 1, 1, 0, 0), BAD, -1, 100);
        S.allDue("BAD ahead of NULL: n", v -> x.film(0, v, 1, 0, 0), BAD, 0, 25);
        S.due("99", x.film(99, 1, 0, 0, 0), 1);
        S.due("24", x.film(0, 24, 0, 0, 0), 24);
    }

    private static void filmNullCastIndex() {
        KnotLaw x = Checks.told("h1,h1/0");
        x.sheet(0, 1, 5);
        S.due("NULL", x.film(0, 1, 1, 1, 0), NULL);
        S.allDue("CAST", v -> x.film(0, 1, 0, v, 0), CAST, 0, 2, 3);
        S.allDue("INDEX, one item", v -> x.film(0, 1, 0, 1, v), INDEX, -1, 5, 6, MIN, MAX);
        S.allDue("INDEX, three items", v -> x.film(0, 3, 0, 1, v), INDEX, -1, 3, 4, MIN, MAX, MAX - 2);
        S.due("INDEX, one too many", x.film(0, 6, 0, 1, 0), INDEX);
        S.due("the last that fits", x.film(0, 3, 0, 1, 2), 3);
        S.due("all", x.film(0, 5, 0, 1, 0), 5);
        x.sheet(0, 1, 0);
        S.due("a row of no items", x.film(0, 1, 0, 1, 0), INDEX);
    }

    // ---- items

    private static int readBack(int lane, long v) {
        KnotLaw x = Checks.told("h1");
        Rows.lay(x, 0, lane, v);
        Rows.startReading(x, 0, lane);
        return Rows.read(x, 0, lane, 0);
    }

    private static void lowestBits() {
        int[] bits = {8, 16, 32};
        for (int lane = 0; lane < 3; lane++) {
            long over = 1L << bits[lane];
            S.due("lane " + lane + ": over and 7", readBack(lane, over + 7), 7);
            S.due("lane " + lane + ": over", readBack(lane, over), 0);
            S.due("lane " + lane + ": 7 and all bits above", readBack(lane, 7 - over), 7);
            S.due("lane " + lane + ": the highest bit is a sign", readBack(lane, over / 2 + 7), Rows.NO_FORCE);
            S.due("lane " + lane + ": over and the sign", readBack(lane, over + over / 2), Rows.NO_FORCE);
            S.due("lane " + lane + ": -1", readBack(lane, over - 1), Rows.NO_FORCE);
            S.due("the next lane holds it", readBack(lane + 1, over + 7), Rows.NO_FORCE);
            S.due("the least long", readBack(lane, Long.MIN_VALUE + 3), 3);
            S.due("the greatest long is -1", readBack(lane, Long.MAX_VALUE), Rows.NO_FORCE);
        }
        S.due("a long", readBack(3, 7), 7);
        S.due("a long, no bit is lost", readBack(3, Long.MIN_VALUE + 7), Rows.NO_FORCE);
        S.due("a long, no bit is lost", readBack(3, (1L << 62) + 7), Rows.NO_FORCE);
        S.due("answer", itemAnswer(), 1);
    }

    private static int itemAnswer() {
        KnotLaw x = new KnotLaw();
        x.sheet(0, 0, 1);
        return x.item(0, 0, 0, Long.MIN_VALUE);
    }

    private static void itemRefused() {
        KnotLaw x = Checks.told("h1");
        x.sheet(0, 1, 5);
        S.allDue("sheet", v -> x.item(v, 1, 0, 9), BAD, NO_SHEET);
        S.allDue("lane", v -> x.item(0, v, 0, 9), BAD, NO_SHEET);
        S.allDue("lane, of nothing", v -> x.item(1, v, 0, 9), BAD, NO_SHEET);
        S.allDue("NULL", v -> x.item(v, 1, 0, 9), NULL, 1, 2, 3);
        S.allDue("CAST", v -> x.item(0, v, 0, 9), CAST, 0, 2, 3);
        S.allDue("INDEX", v -> x.item(0, 1, v, 9), INDEX, -1, 5, 6, 24, MIN, MAX);
        S.due("refused", Rows.told(x, 0), Rows.list(1, 0, 0, 0, 0, 0));
    }

    private static KnotLaw threeRows() {
        KnotLaw x = Checks.told("h1");
        Rows.lay(x, 0, 1, 1, 2, 3, 4, 5, 6);
        Rows.lay(x, 1, 1, 11, 12, 13, 14);
        Rows.lay(x, 2, 2, 17, 18, 19);
        return x;
    }

    private static void copied(int[] call, String first, String second) {
        for (int s = 0; s < 2; s++) {
            KnotLaw x = threeRows();
            S.due("copy", x.copy(call[0], call[1], call[2], call[3], call[4]), call[4]);
            S.due("sheet " + s, Rows.told(x, s), s == 0 ? first : second);
        }
    }

    private static void copyItems() {
        String first = Rows.list(1, 1, 2, 3, 4, 5, 6);
        String second = Rows.list(1, 11, 12, 13, 14);
        copied(new int[] {0, 0, 1, 0, 4}, first, Rows.list(1, 1, 2, 3, 4));
        copied(new int[] {0, 5, 1, 3, 1}, first, Rows.list(1, 11, 12, 13, 6));
        copied(new int[] {0, 2, 1, 1, 2}, first, Rows.list(1, 11, 3, 4, 14));
        copied(new int[] {1, 0, 0, 2, 4}, Rows.list(1, 1, 2, 11, 12, 13, 14), second);
        copied(new int[] {0, 0, 0, 0, 6}, first, second);
        copied(new int[] {0, 0, 0, 3, 3}, Rows.list(1, 1, 2, 3, 1, 2, 3), second);
        copied(new int[] {0, 0, 1, 0, 0}, first, second);
        copied(new int[] {0, 6, 1, 4, 0}, first, second);
        KnotLaw x = new KnotLaw();
        x.sheet(0, 0, 0);
        S.due("none of none", x.copy(0, 0, 0, 0, 0), 0);
        x.sheet(0, 3, 24);
        x.sheet(3, 3, 24);
        S.due("24", x.copy(0, 0, 3, 0, 24), 24);
    }

    private static void copyTakenAhead() {
        String second = Rows.list(1, 11, 12, 13, 14);
        copied(new int[] {0, 0, 0, 1, 5}, Rows.list(1, 1, 1, 2, 3, 4, 5), second);
        copied(new int[] {0, 1, 0, 0, 5}, Rows.list(1, 2, 3, 4, 5, 6, 6), second);
        copied(new int[] {0, 0, 0, 2, 4}, Rows.list(1, 1, 2, 1, 2, 3, 4), second);
        copied(new int[] {0, 2, 0, 0, 4}, Rows.list(1, 3, 4, 5, 6, 5, 6), second);
    }

    private static void copyBadAndNull() {
        KnotLaw x = threeRows();
        S.allDue("from", v -> x.copy(v, 0, 0, 0, 1), BAD, NO_SHEET);
        S.allDue("to", v -> x.copy(0, 0, v, 0, 1), BAD, NO_SHEET);
        S.allDue("BAD ahead of NULL", v -> x.copy(v, 0, 3, 0, 1), BAD, NO_SHEET);
        S.allDue("BAD ahead of NULL", v -> x.copy(3, 0, v, 0, 1), BAD, NO_SHEET);
        S.due("the first holds nothing", x.copy(3, 0, 0, 0, 1), NULL);
        S.due("the other holds nothing", x.copy(0, 0, 3, 0, 1), NULL);
        S.due("both hold nothing", x.copy(3, 0, 3, 0, 1), NULL);
        S.due("no items, but NULL", x.copy(0, 0, 3, 0, 0), NULL);
        S.due("NULL ahead of INDEX", x.copy(0, -1, 3, 0, 1), NULL);
        x.drop(0);
        S.due("NULL, dropped", x.copy(0, 0, 1, 0, 1), NULL);
    }

    private static void copyCast() {
        KnotLaw x = threeRows();
        S.due("shorts to ints", x.copy(0, 0, 2, 0, 1), CAST);
        S.due("ints to shorts", x.copy(2, 0, 0, 0, 1), CAST);
        S.due("no items, but CAST", x.copy(0, 0, 2, 0, 0), CAST);
        S.due("CAST ahead of INDEX", x.copy(0, -1, 2, 0, 1), CAST);
        S.due("CAST ahead of INDEX", x.copy(0, 0, 2, 0, -1), CAST);
        for (int a = 0; a < 4; a++) {
            for (int b = 0; b < 4; b++) {
                x.sheet(0, a, 2);
                x.sheet(3, b, 2);
                S.due("lanes " + a + ", " + b, x.copy(0, 0, 3, 0, 2), a == b ? 2 : CAST);
            }
        }
    }

    private static void copyIndex() {
        int[][] calls = {{-1, 0, 1}, {0, -1, 1}, {6, 0, 1}, {0, 4, 1}, {3, 0, 4}, {0, 1, 4}, {0, 0, 5}, {7, 0, 0},
            {0, 5, 0}, {-1, 0, 0}, {0, -1, 0}, {0, 0, -1}, {1, 1, -1}, {MAX, 0, 1}, {0, MAX, 1}, {0, 0, MAX},
            {1, 1, MAX}, {MAX, MAX, MAX}, {MAX, 0, 0}, {MIN, 0, 0}, {0, MIN, 0}, {0, 0, MIN}, {MIN, MIN, MIN},
            {MAX, 0, MIN}, {MIN, 0, MAX}};
        for (int[] c : calls) {
            KnotLaw x = threeRows();
            S.due("copy(0, " + c[0] + ", 1, " + c[1] + ", " + c[2] + ")", x.copy(0, c[0], 1, c[1], c[2]), INDEX);
        }
        KnotLaw y = threeRows();
        S.due("the same sheet", y.copy(0, 1, 0, 0, 6), INDEX);
        S.due("the same sheet", y.copy(0, 0, 0, 1, 6), INDEX);
        S.due("refused", Rows.told(y, 0), Rows.list(1, 1, 2, 3, 4, 5, 6));
        KnotLaw z = threeRows();
        S.due("not into the next sheet's items", z.copy(1, 0, 0, 3, 4), INDEX);
        S.due("refused", Rows.told(z, 1), Rows.list(1, 11, 12, 13, 14));
    }
}
