/** Promises 1 to 8. */
public final class ClausesTest {
    private static final int MIN = Integer.MIN_VALUE;
    private static final int MAX = Integer.MAX_VALUE;
    private static final Checks C = new Checks("ClausesTest");

    public static void main(String[] args) {
        newObject();
        clause();
        of();
        firm();
        party();
        owe();
        type();
        agreementIsTaken();
        agreementFaults();
        agreementBlanks();
        agreementReplaces();
        count();
        C.end();
    }

    private static void newObject() {
        KnotLaw x = new KnotLaw();
        int[] want = {0, 0, 0, 0, 0, 0, 0, 0};
        for (int what = 0; what < 8; what++) {
            C.due("1 count(" + what + ")", x.count(what), want[what]);
        }
        C.due("1 seed", x.seed(5), 1);
        for (int s = 0; s < 4; s++) {
            C.due("1 drop", x.drop(s), KnotLaw.NULL);
        }
        C.due("1 restore", x.restore(), KnotLaw.NONE);
        C.due("1 undo", x.undo(), KnotLaw.NONE);
        C.due("1 of", x.of(0, 0), KnotLaw.BAD);
        C.due("1 tape", x.type('h'), 1);
    }

    private static void clause() {
        KnotLaw x = new KnotLaw();
        C.due("2 no lesser one", x.clause(0, 1, 1, 0), KnotLaw.BAD);
        for (int k = 0; k < 5; k++) {
            C.due("2 kind " + k, x.clause(k, 1 + k, (1 << k) - 1, k % 4), k);
        }
        C.due("2 kind 5", x.clause(5, 1, 0, 0), KnotLaw.BAD);
        C.due("2 kind -1", x.clause(-1, 1, 0, 0), KnotLaw.BAD);
        C.due("2 holds 0", x.clause(0, 0, 0, 0), KnotLaw.BAD);
        C.due("2 holds 21", x.clause(0, 21, 0, 0), KnotLaw.BAD);
        C.due("2 barred by itself", x.clause(0, 1, 32, 0), KnotLaw.BAD);
        C.due("2 barred -1", x.clause(0, 1, -1, 0), KnotLaw.BAD);
        C.due("2 barred MIN", x.clause(0, 1, MIN, 0), KnotLaw.BAD);
        C.due("2 party -1", x.clause(0, 1, 0, -1), KnotLaw.BAD);
        C.due("2 party 4", x.clause(0, 1, 0, 4), KnotLaw.BAD);
        C.due("2 refused", x.count(0), 5);
        C.due("2 holds 20", x.clause(0, 20, 31, 3), 5);
        C.due("2 sixth", x.clause(0, 1, 0, 0), 6);
        C.due("2 seventh", x.clause(0, 1, 127, 0), 7);
        C.due("2 full", x.clause(0, 1, 255, 0), KnotLaw.FULL);
        C.due("2 bad ahead of full", x.clause(0, 1, 256, 0), KnotLaw.BAD);
        C.due("2 bad ahead of full", x.clause(0, 1, 0, 9), KnotLaw.BAD);
        C.due("2 all tied", x.count(3), 255);
        KnotLaw y = Checks.told("h5");
        y.pull(9);
        C.due("2 act known", y.count(7), 1);
        y.clause(9, 9, 9, 9);
        C.due("2 refused leaves acts", y.count(7), 1);
        y.clause(0, 2, 1, 0);
        C.due("2 nothing to take back", y.undo(), KnotLaw.NONE);
        C.due("2 undone stays undone", y.count(3), 2);
    }

    private static void of() {
        KnotLaw x = new KnotLaw();
        x.clause(1, 7, 0, 2);
        x.clause(2, 9, 1, 3);
        int[] first = {1, 7, 0, 2, 1, 1, 17};
        int[] second = {2, 9, 1, 3, 1, 0, 4};
        for (int what = 0; what < 7; what++) {
            C.due("3 of(0, " + what + ")", x.of(0, what), first[what]);
            C.due("3 of(1, " + what + ")", x.of(1, what), second[what]);
        }
        x.cut(0);
        C.due("3 undone", x.of(0, 4), 0);
        C.due("3 undone is not free", x.of(0, 5), 0);
        C.due("3 undone is firm", x.of(0, 6), 17);
        C.due("3 free now", x.of(1, 5), 1);
        for (int bad : new int[] {-1, 2, 8, MIN, MAX}) {
            C.due("3 clause " + bad, x.of(bad, 0), KnotLaw.BAD);
        }
        for (int bad : new int[] {-1, 7, MIN, MAX}) {
            C.due("3 what " + bad, x.of(0, bad), KnotLaw.BAD);
        }
    }

    private static void firm() {
        KnotLaw x = Checks.told("h7,s7,l7,o7,g7");
        firmIs(x, "day 0", 7, 17, 3, 17, 0);
        x.days(6);
        firmIs(x, "day 6", 7, 17, 3, 17, 3);
        x.wet(1);
        firmIs(x, "day 6, wet", 14, 24, 7, 24, 7);
        x.days(1);
        firmIs(x, "day 7, wet", 14, 24, 7, 24, 0);
        x.days(2);
        firmIs(x, "day 9, wet", 14, 24, 7, 24, 7);
        x.days(1);
        firmIs(x, "day 10, wet", 14, 24, 7, 25, 7);
        x.wet(0);
        x.days(89);
        firmIs(x, "day 99", 7, 17, 3, 26, 3);
        for (int k = 0; k < 100; k++) {
            x.days(99);
        }
        firmIs(x, "day 9999", 7, 17, 3, 1016, 3);
    }

    private static void firmIs(KnotLaw x, String when, int... firms) {
        for (int c = 0; c < firms.length; c++) {
            C.due("3 " + when + ": of(" + c + ", 6)", x.of(c, 6), firms[c]);
        }
    }

    private static void party() {
        KnotLaw x = Checks.told("h1@3,h2,h3@3,h9@1");
        int[] owes = {2, 8, 0, 5};
        int[] bound = {1, 1, 0, 1};
        for (int p = 0; p < 4; p++) {
            C.due("4 owes " + p, x.party(p, 0), owes[p]);
            C.due("4 bound " + p, x.party(p, 1), bound[p]);
        }
        x.pull(2);
        C.due("4 owes what is undone", x.party(0, 0), 2);
        C.due("4 not bound", x.party(0, 1), 0);
        C.due("4 bound by one", x.party(3, 1), 1);
        for (int bad : new int[] {-1, 4, MIN, MAX}) {
            C.due("4 party " + bad, x.party(bad, 0), KnotLaw.BAD);
        }
        for (int bad : new int[] {-1, 2, MIN, MAX}) {
            C.due("4 what " + bad, x.party(0, bad), KnotLaw.BAD);
        }
    }

    private static void owe() {
        KnotLaw x = Checks.told("h1@3,h2");
        C.due("5 was 3", x.owe(0, 1), 3);
        C.due("5 was 1", x.owe(0, 1), 1);
        C.due("5 now", x.of(0, 3), 1);
        C.due("5 set", x.party(1, 0), 1);
        C.due("5 set", x.party(3, 0), 0);
        C.due("5 no act", x.count(7), 0);
        C.due("5 bad clause", x.owe(2, 0), KnotLaw.BAD);
        C.due("5 bad clause", x.owe(-1, 0), KnotLaw.BAD);
        C.due("5 bad party", x.owe(0, 4), KnotLaw.BAD);
        C.due("5 bad party", x.owe(0, -1), KnotLaw.BAD);
        C.due("5 stays", x.of(0, 3), 1);
        x.pull(1);
        x.owe(0, 2);
        x.undo();
        C.due("5 is not taken back", x.of(0, 3), 2);
    }

    private static void type() {
        KnotLaw x = new KnotLaw();
        for (int bad : new int[] {31, 127, -1, 0, 256 + 65, MIN, MAX}) {
            C.due("6 letter " + bad, x.type(bad), KnotLaw.BAD);
        }
        for (int n = 1; n <= 100; n++) {
            C.due("6 letter " + n, x.type(n % 2 == 0 ? 32 : 126), n);
        }
        C.due("6 full", x.type(32), KnotLaw.FULL);
        C.due("6 bad ahead of full", x.type(31), KnotLaw.BAD);
        C.due("6 fault of a full tape", x.agreement(), -20);
        C.due("6 empty then", x.type('h'), 1);
        KnotLaw y = new KnotLaw();
        for (int n = 1; n <= 100; n++) {
            y.type(n == 1 ? 'h' : ' ');
        }
        C.due("6 end of a full tape", y.agreement(), -120);
    }

    private static void taken(String text, int clauses) {
        KnotLaw x = new KnotLaw();
        C.due("7 \"" + text + "\"", Checks.tell(x, text), clauses);
        C.due("7 clauses of \"" + text + "\"", x.count(0), clauses);
        C.due("7 tape is empty", x.type(' '), 1);
    }

    private static void agreementIsTaken() {
        taken("h1", 1);
        taken("g20@3", 1);
        taken("h01", 1);
        taken("h1,h1,h1,h1,h1,h1,h1,h1", 8);
        taken("h1,h1,h1,h1,h1,h1,h1,h1/0123456@0", 8);
        KnotLaw x = Checks.told("h1,s02@1,l3/1@2,o20/02@3,g10");
        int[][] want = {{0, 1, 0, 0}, {1, 2, 0, 1}, {2, 3, 2, 2}, {3, 20, 5, 3}, {4, 10, 0, 0}};
        for (int c = 0; c < 5; c++) {
            for (int what = 0; what < 4; what++) {
                C.due("7 of(" + c + ", " + what + ")", x.of(c, what), want[c][what]);
            }
        }
    }

    private static void fault(String text, int place) {
        KnotLaw x = Checks.told("s3,h4/0");
        x.wet(1);
        x.days(3);
        x.cut(1);
        C.due("7 \"" + text + "\"", Checks.tell(x, text), -20 - place);
        C.due("7 stays: clauses", x.count(0), 2);
        C.due("7 stays: kind", x.of(0, 0), 1);
        C.due("7 stays: day", x.count(1), 3);
        C.due("7 stays: wet", x.count(2), 1);
        C.due("7 stays: tied", x.count(3), 1);
        C.due("7 stays: wars", x.count(6), 1);
        C.due("7 stays: acts", x.count(7), 3);
        C.due("7 tape is empty", x.type(' '), 1);
    }

    private static void agreementFaults() {
        fault("", 0);
        fault("H1", 0);
        fault(",h1", 0);
        fault("5", 0);
        fault("h", 1);
        fault("h,", 1);
        fault("h0", 1);
        fault("h00", 1);
        fault("h21", 1);
        fault("h99", 1);
        fault("h999", 1);
        fault("h201", 3);
        fault("h001", 1);
        fault("h011", 3);
        fault("h0x", 1);
        fault("h1x", 2);
        fault("h1h2", 2);
        fault("h1,", 3);
        fault("h1,,h2", 3);
        fault("h1/", 3);
        fault("h1/0", 3);
        fault("h1/@1", 3);
        fault("h1,h2/2", 6);
        fault("h1,h2/1", 6);
        fault("h1,h2/00", 7);
        fault("h1,h2,h3/10", 10);
        fault("h1,h2,h3/11", 10);
        fault("h1,h2,h3/02", 10);
        fault("h1,h2/0/0", 7);
        fault("h1@", 3);
        fault("h1@4", 3);
        fault("h1@x", 3);
        fault("h1@12", 4);
        fault("h1@1@1", 4);
        fault("h1,h2@1/0", 7);
        fault("h1,h1,h1,h1,h1,h1,h1,h1,h1", 23);
        fault("h1,h1,h1,h1,h1,h1,h1,h1,", 23);
        fault("h1,h1,h1,h1,h1,h1,h1,h1/7", 24);
        fault("h1/8", 3);
        fault("h1;", 2);
    }

    private static void agreementBlanks() {
        taken(" h 1 , s 2 / 0 @ 1 ", 2);
        taken("h1,h2,h3/0 1", 3);
        taken("  h20  ", 1);
        fault(" ", 1);
        fault("  x", 2);
        fault("h ", 2);
        fault("h  0", 3);
        fault("h  21 ", 3);
        fault("h1 2", 3);
        fault("h2  0", 4);
        fault("h1 , ", 5);
        fault("h1 @ 4", 5);
        fault("h1 @ 1 2", 7);
        fault("h1,h2 / 0 0", 10);
        fault("h1,h2 / ", 8);
    }

    private static void agreementReplaces() {
        KnotLaw x = Checks.told("h1,h2,h3");
        x.seed(77);
        x.wet(1);
        x.days(9);
        x.cut(2);
        x.pull(99);
        C.due("7 in place of all", Checks.tell(x, "s4,l5/0@2"), 2);
        int[] want = {2, 0, 0, 3, 1, 5, 0, 0};
        for (int what = 0; what < 8; what++) {
            C.due("7 count(" + what + ")", x.count(what), want[what]);
        }
        C.due("7 no third", x.of(2, 0), KnotLaw.BAD);
        C.due("7 the draw stays", x.seed(1), 77);
        C.due("7 nothing to take back", x.undo(), KnotLaw.NONE);
    }

    private static void count() {
        KnotLaw x = Checks.told("h1@2,h20/0@1,h3@2,h20");
        x.days(4);
        x.wet(1);
        x.pull(6);
        x.cut(3);
        int[] want = {4, 4, 1, 2, 2, 2, 1, 4};
        for (int what = 0; what < 8; what++) {
            C.due("8 count(" + what + ")", x.count(what), want[what]);
        }
        for (int bad : new int[] {-1, 8, MIN, MAX}) {
            C.due("8 what " + bad, x.count(bad), KnotLaw.BAD);
        }
    }
}
