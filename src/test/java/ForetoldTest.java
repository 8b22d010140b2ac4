/** Promises 17 to 30. */
public final class ForetoldTest {
    private static final int MIN = Integer.MIN_VALUE;
    private static final int MAX = Integer.MAX_VALUE;
    private static final int[] NO_FORCE = {-1, 100, MIN, MAX};
    private static final int[] NO_FLAG = {-1, 2, MIN, MAX};
    private static final Checks C = new Checks("ForetoldTest");

    public static void main(String[] args) {
        falls();
        pulls();
        force();
        needs();
        deep();
        frees();
        orders();
        ahead();
        game();
        cuts();
        weather();
        rotten();
        image();
        wrongClauses();
        C.end();
    }

    private static void falls() {
        KnotLaw x = Checks.told("h5,h2/0,s1");
        C.due("17 4", x.falls(4), 0);
        C.due("17 5", x.falls(5), 1);
        C.due("17 99", x.falls(99), 5);
        C.due("17 nothing is changed", x.count(3), 7);
        C.due("17 no act", x.count(7), 0);
        for (int bad : NO_FORCE) {
            C.due("17 f " + bad, x.falls(bad), KnotLaw.BAD);
        }
    }

    private static void pulls() {
        KnotLaw x = Checks.told("h5,h9/0,h2/1,h1/0");
        C.due("18 first", x.pulls(0, 5), 1);
        C.due("18 too weak", x.pulls(0, 4), KnotLaw.NONE);
        C.due("18 second", x.pulls(1, 9), 2);
        C.due("18 third", x.pulls(2, 9), 3);
        C.due("18 stuck behind a firmer one", x.pulls(2, 8), KnotLaw.NONE);
        C.due("18 beside a firmer one", x.pulls(3, 5), 2);
        x.cut(1);
        C.due("18 undone", x.pulls(1, 0), 0);
        C.due("18 behind an undone one", x.pulls(2, 2), 1);
        for (int bad : NO_FORCE) {
            C.due("18 f " + bad, x.pulls(0, bad), KnotLaw.BAD);
            C.due("18 f " + bad + ", undone", x.pulls(1, bad), KnotLaw.BAD);
        }
        KnotLaw y = Checks.told("h1,h1/0,h1/1,h1/2,h1/3,h1/4,h1/5,h1/6");
        C.due("18 eight", y.pulls(7, 1), 8);
        C.due("19 eight", y.force(7, 8), 1);
        C.due("19 seven", y.force(7, 7), KnotLaw.NONE);
    }

    private static void force() {
        KnotLaw x = Checks.told("h5,h9/0,h2/1,l1");
        C.due("19 first", x.force(0, 1), 5);
        C.due("19 first, of more", x.force(0, 8), 5);
        C.due("19 second too soon", x.force(1, 1), KnotLaw.NONE);
        C.due("19 third", x.force(2, 3), 9);
        C.due("19 of no firmness", x.force(3, 1), 0);
        x.cut(1);
        C.due("19 undone", x.force(1, 1), 0);
        C.due("19 behind an undone one", x.force(2, 1), 2);
        for (int bad : new int[] {-1, 0, 9, MIN, MAX}) {
            C.due("19 n " + bad, x.force(0, bad), KnotLaw.BAD);
        }
        KnotLaw y = Checks.told("o20");
        for (int k = 0; k < 7; k++) {
            y.days(99);
        }
        C.due("19 day 693", y.force(0, 1), 99);
        y.days(6);
        C.due("19 day 699", y.force(0, 1), 99);
        y.days(1);
        C.due("19 day 700", y.force(0, 8), KnotLaw.NONE);
        C.due("18 day 700", y.pulls(0, 99), KnotLaw.NONE);
    }

    private static void needs() {
        KnotLaw x = Checks.told("h5,h9/0,h2,h1/1,h4/23");
        int[] want = {0, 1, 0, 3, 15};
        for (int c = 0; c < 5; c++) {
            C.due("20 " + c, x.needs(c), want[c]);
        }
        x.cut(1);
        C.due("20 what is undone asks for nothing", x.needs(3), 0);
        C.due("20 tied ones alone", x.needs(4), Checks.set(2, 3));
        C.due("20 nothing is changed", x.count(3), 29);
        x.cut(4);
        C.due("20 of one that is undone, barred by tied ones", x.needs(4), 0);
        x.tie(4);
        C.due("20 of one that is tied again", x.needs(4), Checks.set(2, 3));
        x.tie(1);
        C.due("20 of one whose bars are tied again", x.needs(4), Checks.set(0, 1, 2, 3));
        KnotLaw y = Checks.told("h1,h1/0");
        y.pull(1);
        y.pull(1);
        y.tie(0);
        C.due("20 of one undone, its bar tied again", y.needs(1), 0);
        C.due("18 likewise", y.pulls(1, 0), 0);
        C.due("19 likewise", y.force(1, 1), 0);
        C.due("22 likewise", y.frees(0, 1), 1);
        C.due("20 of the last", Checks.told("h1,h1,h1/1,h1,h1/2,h1,h1,h1/46").needs(7), Checks.set(1, 2, 4, 6));
    }

    private static void deep() {
        KnotLaw x = Checks.told("h5,h9/0,h2,h1/1,h4/23,h3");
        C.due("21 four", x.deep(), 4);
        x.cut(1);
        C.due("21 two", x.deep(), 2);
        x.cut(4);
        C.due("21 one", x.deep(), 1);
        for (int c : new int[] {0, 2, 3, 5}) {
            x.cut(c);
        }
        C.due("21 nothing", x.deep(), 0);
        C.due("21 the first alone", Checks.told("h5").deep(), 1);
        C.due("21 eight", Checks.told("h1,h1/0,h1/1,h1/2,h1/3,h1/4,h1/5,h1/6").deep(), 8);
    }

    private static void frees() {
        KnotLaw x = Checks.told("h5,h9/0@1,h2,h1/1@2,h4/2@2");
        C.due("22 how many", x.frees(2, 0), 5);
        C.due("22 which", x.frees(2, 1), 31);
        C.due("22 how many", x.frees(1, 0), 2);
        C.due("22 which", x.frees(1, 1), 3);
        C.due("22 owes nothing", x.frees(3, 0), 0);
        C.due("22 owes nothing", x.frees(3, 1), 0);
        x.cut(3);
        C.due("22 owes one less", x.frees(2, 1), Checks.set(2, 4));
        x.cut(4);
        C.due("22 is not bound", x.frees(2, 1), 0);
        for (int bad : new int[] {-1, 4, MIN, MAX}) {
            C.due("22 party " + bad, x.frees(bad, 0), KnotLaw.BAD);
        }
        for (int bad : NO_FLAG) {
            C.due("22 what " + bad, x.frees(0, bad), KnotLaw.BAD);
        }
    }

    private static void orders() {
        KnotLaw x = Checks.told("h1,h2/0,h3,h4/2");
        C.due("23 two rows of two", x.orders(-1), 6);
        int[] want = {0, 1, 2, 3, KnotLaw.NONE, KnotLaw.NONE};
        for (int k = 0; k < want.length; k++) {
            C.due("23 " + k, x.orders(k), want[k]);
        }
        x.cut(1);
        C.due("23 one less", x.orders(-1), 3);
        C.due("23 first", x.orders(0), 0);
        C.due("23 second", x.orders(1), 2);
        C.due("23 third", x.orders(2), 3);
        C.due("23 not so many", x.orders(3), KnotLaw.NONE);
        C.due("23 not so many", x.orders(MAX), KnotLaw.NONE);
        C.due("23 bad", x.orders(-2), KnotLaw.BAD);
        C.due("23 bad", x.orders(MIN), KnotLaw.BAD);
        x.cut(0);
        x.cut(2);
        x.cut(3);
        C.due("23 nothing tied", x.orders(-1), 1);
        C.due("23 nothing tied", x.orders(0), KnotLaw.NONE);
        C.due("23 all orders", Checks.told("h1,h1,h1,h1,h1,h1,h1,h1").orders(-1), 40320);
    }

    private static void ahead() {
        KnotLaw x = Checks.told("h1,h2/0,h3,h4/2");
        C.due("24 one ahead of one of the other row", x.ahead(0, 2, 0), 3);
        C.due("24 of all", x.ahead(0, 2, 1), 6);
        C.due("24 the first of one row, the last of the other", x.ahead(0, 3, 0), 5);
        C.due("24 the other way", x.ahead(3, 0, 0), 1);
        C.due("24 bars it", x.ahead(0, 1, 0), 6);
        C.due("24 is barred by it", x.ahead(1, 0, 0), 0);
        C.due("24 below", x.ahead(1, 0, 1), 6);
        C.due("24 alike", x.ahead(1, 1, 0), KnotLaw.BAD);
        for (int bad : NO_FLAG) {
            C.due("24 what " + bad, x.ahead(0, 1, bad), KnotLaw.BAD);
        }
        x.cut(1);
        C.due("24 one is undone", x.ahead(1, 0, 0), KnotLaw.NOT);
        C.due("24 one is undone", x.ahead(0, 1, 1), KnotLaw.NOT);
        C.due("24 bad ahead of not", x.ahead(1, 0, 2), KnotLaw.BAD);
        C.due("24 bad ahead of not", x.ahead(1, 1, 0), KnotLaw.BAD);
        C.due("24 the rest", x.ahead(3, 0, 0), 1);
        C.due("24 of all", x.ahead(3, 0, 1), 3);
        KnotLaw y = Checks.told("h1,h1,h1,h1,h1,h1,h1,h1");
        C.due("24 half", y.ahead(7, 0, 0), 20160);
        C.due("24 of all", y.ahead(7, 0, 1), 40320);
    }

    private static void game() {
        KnotLaw x = Checks.told("h1,h2/0,h3");
        C.due("25 three, the last wins", x.game(0, 0), 1);
        C.due("25 clause", x.game(0, 1), 0);
        C.due("25 three, the last loses", x.game(1, 0), 0);
        C.due("25 clause", x.game(1, 1), KnotLaw.NONE);
        x.cut(0);
        C.due("25 two", x.game(0, 0), 0);
        C.due("25 clause", x.game(0, 1), KnotLaw.NONE);
        C.due("25 two, the last loses", x.game(1, 0), 1);
        C.due("25 clause", x.game(1, 1), 1);
        x.cut(1);
        C.due("25 one", x.game(0, 1), 2);
        x.cut(2);
        C.due("25 nothing tied", x.game(0, 0), 0);
        C.due("25 nothing tied", x.game(0, 1), KnotLaw.NONE);
        C.due("25 nothing tied", x.game(1, 0), 1);
        C.due("25 nothing tied", x.game(1, 1), KnotLaw.NONE);
        for (int bad : NO_FLAG) {
            C.due("25 lose " + bad, x.game(bad, 0), KnotLaw.BAD);
            C.due("25 what " + bad, x.game(0, bad), KnotLaw.BAD);
        }
    }

    private static void cuts() {
        KnotLaw x = Checks.told("h5,h9/0,h2,h7/12");
        C.due("26 how many", x.cuts(3, 7, 0), 2);
        C.due("26 which", x.cuts(3, 7, 1), 6);
        C.due("26 too weak", x.cuts(3, 6, 0), KnotLaw.NONE);
        C.due("26 too weak", x.cuts(3, 6, 1), KnotLaw.NONE);
        C.due("26 free", x.cuts(0, 5, 0), 0);
        C.due("26 free", x.cuts(0, 5, 1), 0);
        x.cut(1);
        C.due("26 one less", x.cuts(3, 99, 1), 4);
        C.due("26 undone", x.cuts(1, 99, 0), KnotLaw.NONE);
        C.due("26 undone", x.cuts(1, 99, 1), KnotLaw.NONE);
        C.due("26 no wars", x.count(6), 1);
        for (int bad : NO_FORCE) {
            C.due("26 f " + bad, x.cuts(0, bad, 0), KnotLaw.BAD);
        }
        for (int bad : NO_FLAG) {
            C.due("26 what " + bad, x.cuts(1, 0, bad), KnotLaw.BAD);
        }
    }

    private static void weather() {
        KnotLaw x = Checks.told("h5,g20/0,o3");
        x.days(1);
        C.due("27 now", x.weather(0, 5), 0);
        C.due("27 none", x.weather(0, 4), KnotLaw.NONE);
        C.due("27 granny, barred", x.weather(1, 0), 6);
        C.due("27 granny now", x.weather(1, 10), 0);
        C.due("27 oath", x.weather(2, 12), KnotLaw.NONE);
        C.due("27 oath", x.weather(2, 13), 0);
        x.wet(1);
        C.due("27 wet", x.weather(1, 19), 6);
        x.days(6);
        C.due("27 day 7", x.weather(1, 0), 0);
        x.cut(1);
        x.days(1);
        C.due("27 undone", x.weather(1, 0), 6);
        C.due("27 nothing is changed", x.count(1), 8);
        for (int bad : NO_FORCE) {
            C.due("27 f " + bad, x.weather(0, bad), KnotLaw.BAD);
        }
        for (int k = 0; k < 100; k++) {
            x.days(99);
        }
        x.days(91);
        C.due("27 day 9999", x.count(1), 9999);
        C.due("27 behind the last day", x.weather(1, 0), 4);
    }

    private static void fraction(KnotLaw x, int clause, int f, int c, int above, int below) {
        String call = "28 rotten(" + clause + ", " + f + ", " + c;
        C.due(call + ", 0)", x.rotten(clause, f, c, 0), above);
        C.due(call + ", 1)", x.rotten(clause, f, c, 1), below);
    }

    private static void rotten() {
        KnotLaw x = Checks.told("h5,h9/0,h2,h7/12");
        fraction(x, 0, 5, 3, 1, 1);
        fraction(x, 0, 4, 3, 3, 10);
        fraction(x, 0, 4, 5, 1, 2);
        fraction(x, 0, 4, 0, 0, 1);
        fraction(x, 0, 4, 10, 1, 1);
        fraction(x, 1, 9, 5, 3, 4);
        fraction(x, 1, 9, 1, 19, 100);
        fraction(x, 1, 8, 1, 1, 10);
        fraction(x, 1, 9, 0, 0, 1);
        fraction(x, 3, 99, 1, 109, 1000);
        fraction(x, 3, 99, 10, 1, 1);
        x.cut(2);
        fraction(x, 3, 99, 1, 19, 100);
        fraction(x, 2, 0, 0, 1, 1);
        fraction(x, 2, 0, 7, 1, 1);
        KnotLaw y = Checks.told("h1,h1,h1,h1,h1,h1,h1,h1/0123456");
        fraction(y, 7, 1, 1, 10000009, 100000000);
        fraction(y, 7, 1, 9, 90000000 + 4782969, 100000000);
        fraction(y, 7, 1, 5, 129, 256);
        fraction(y, 7, 0, 5, 1, 2);
        fraction(y, 7, 1, 0, 0, 1);
        C.due("28 nothing is changed", y.count(3), 255);
        for (int bad : NO_FORCE) {
            C.due("28 f " + bad, x.rotten(0, bad, 0, 0), KnotLaw.BAD);
        }
        for (int bad : new int[] {-1, 11, MIN, MAX}) {
            C.due("28 c " + bad, x.rotten(0, 0, bad, 0), KnotLaw.BAD);
        }
        for (int bad : NO_FLAG) {
            C.due("28 what " + bad, x.rotten(2, 0, 0, bad), KnotLaw.BAD);
        }
    }

    private static void image() {
        KnotLaw x = Checks.told("h5,h9/0@2,h2");
        C.due("30 none", x.restore(), KnotLaw.NONE);
        x.days(3);
        x.wet(1);
        x.cut(2);
        x.seed(9);
        x.type('h');
        x.sheet(0, 1, 3);
        C.due("29 image", x.image(), 1);
        x.undo();
        x.pull(99);
        x.days(20);
        x.wet(0);
        x.owe(1, 3);
        x.seed(10);
        x.clause(4, 4, 7, 1);
        x.type('7');
        x.sheet(0, 2, 5);
        C.due("30 restore", x.restore(), 1);
        int[] want = {3, 3, 1, 3, 1, 5, 1, 3};
        for (int what = 0; what < 8; what++) {
            C.due("30 count(" + what + ")", x.count(what), want[what]);
        }
        C.due("30 owed", x.of(1, 3), 2);
        C.due("30 the draw", x.seed(11), 9);
        C.due("30 sheets stay", x.drop(0), 5);
        C.due("30 the tape stays", x.type(','), 3);
        C.due("30 acts are as they were", x.undo(), 2);
        C.due("30 tied", x.count(3), 7);
        C.due("30 wars", x.count(6), 0);
        C.due("30 restore again", x.restore(), 1);
        C.due("30 tied", x.count(3), 3);
        C.due("30 the draw", x.seed(11), 9);
        C.due("30 the tape stays", Checks.tell(x, "s1"), 2);
        C.due("30 agreement", x.count(0), 2);
        C.due("30 restore behind an agreement", x.restore(), 1);
        C.due("30 clauses", x.count(0), 3);
        C.due("30 kind", x.of(0, 0), 0);
        C.due("30 acts", x.count(7), 3);
        x.pull(99);
        C.due("29 a later image", x.image(), 1);
        x.tie(0);
        C.due("30 the later one", x.restore(), 1);
        C.due("30 tied", x.count(3), 2);
        imageKeepsActs();
    }

    private static void imageKeepsActs() {
        KnotLaw x = Checks.told("h5,h9,h2");
        x.cut(1);
        x.days(8);
        x.image();
        for (int k = 0; k < 9; k++) {
            x.days(10);
        }
        x.restore();
        C.due("30 first act", x.undo(), 1);
        C.due("30 day", x.count(1), 0);
        C.due("30 tied", x.count(3), 5);
        C.due("30 second act", x.undo(), 0);
        C.due("30 tied", x.count(3), 7);
        x.restore();
        C.due("30 the image keeps its acts", x.undo(), 1);
        C.due("30 day", x.count(1), 0);
    }

    private static void wrongClauses() {
        KnotLaw x = Checks.told("h5,h9/0,h2");
        for (int bad : new int[] {-1, 3, 8, 32, MIN, MAX}) {
            C.due("18 clause " + bad, x.pulls(bad, 0), KnotLaw.BAD);
            C.due("19 clause " + bad, x.force(bad, 1), KnotLaw.BAD);
            C.due("20 clause " + bad, x.needs(bad), KnotLaw.BAD);
            C.due("24 clause " + bad, x.ahead(bad, 0, 0), KnotLaw.BAD);
            C.due("24 other " + bad, x.ahead(0, bad, 0), KnotLaw.BAD);
            C.due("26 clause " + bad, x.cuts(bad, 0, 0), KnotLaw.BAD);
            C.due("27 clause " + bad, x.weather(bad, 0), KnotLaw.BAD);
            C.due("28 clause " + bad, x.rotten(bad, 0, 0, 0), KnotLaw.BAD);
        }
    }
}
