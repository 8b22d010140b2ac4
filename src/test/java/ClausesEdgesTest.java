/** The edges that promises 1 to 8 and the terms of AN AGREEMENT name, a test for each sentence. */
public final class ClausesEdgesTest {
    private static final int MIN = Sentences.MIN;
    private static final int MAX = Sentences.MAX;
    private static final int BAD = KnotLaw.BAD;
    private static final String EIGHT = "h1,h1,h1,h1,h1,h1,h1,h1";
    private static final Sentences S = new Sentences("ClausesEdgesTest");
    private static final Twins T = new Twins(S);

    public static void main(String[] args) {
        clauses();
        tape();
        texts();
        faults();
        S.end();
    }

    private static void clauses() {
        S.holds("Promise 1", "A rope, no clauses.", ClausesEdgesTest::newObject);
        S.holds("Promise 2", "A CLAUSE: its number. BAD", ClausesEdgesTest::clauseBad);
        S.holds("Promise 2", "(BARRED by no lesser one, too)", ClausesEdgesTest::barredByNoLesserOne);
        S.holds("Promise 2", "FULL: 8.", ClausesEdgesTest::eightAreFull);
        S.holds("Promise 3", "6 how FIRM it is now. BAD.", ClausesEdgesTest::ofBad);
        S.holds("Promise 3", "4 whether TIED (1, 0), 5 whether FREE (1, 0)", ClausesEdgesTest::ofUndone);
        S.holds("Promise 4", "1 whether BOUND (1, 0). BAD.", ClausesEdgesTest::partyBad);
        S.holds("Promise 4", "0 CLAUSES that it OWES (a set)", ClausesEdgesTest::partyOwes);
        S.holds("Promise 5", "A CLAUSE is OWED by another PARTY (or the same): by whom it was.", ClausesEdgesTest::owe);
        S.holds("Promise 5", "by whom it was. BAD.", ClausesEdgesTest::oweBad);
        S.holds("Promise 8", "7 what may be taken back. BAD.", ClausesEdgesTest::countBad);
        S.holds("Promise 8", "7 what may be taken back", ClausesEdgesTest::countEmptyAndFull);
    }

    private static void tape() {
        S.holds("Promise 6", "BAD: not 32 .. 126", ClausesEdgesTest::lettersOfTheTape);
        S.holds("Promise 6", "FULL: 100.", ClausesEdgesTest::hundredLetters);
        S.holds("Promise 6", "One letter more behind THE TAPE: how many it has.", ClausesEdgesTest::howManyLetters);
        S.holds("Promise 7", "THE TAPE, which is empty then", ClausesEdgesTest::tapeIsEmptyThen);
        S.holds("Promise 7", "A FAULT (all else stays).", ClausesEdgesTest::faultLeavesAllElse);
        S.holds("Promise 7", "is AN AGREEMENT: how many CLAUSES.", ClausesEdgesTest::howManyClauses);
    }

    private static void texts() {
        S.holds("3", "1 to 8 CLAUSES with , between", ClausesEdgesTest::oneToEight);
        S.holds("3", "h s l o g (HITCH, SPLICE, SLIP, OATH, GRANNY)", ClausesEdgesTest::kindLetters);
        S.holds("3", "a number 1 .. 20 (HOLDS)", ClausesEdgesTest::number1To20);
        S.holds("3", "then perhaps / and one digit or more", ClausesEdgesTest::oneDigitOrMore);
        S.holds("3", "one digit or more, rising", ClausesEdgesTest::digitsRise);
        S.holds("3", "each of a CLAUSE told ahead of it (BARRED)", ClausesEdgesTest::digitsOfClausesAhead);
        S.holds("3", "perhaps @ and a digit 0 .. 3 (OWED; else by 0)", ClausesEdgesTest::owedByADigit);
        S.holds("3", "in place of all CLAUSES; all TIED, DRY, DAY 0, no WARS", ClausesEdgesTest::inPlaceOfAll);
        S.holds("3", "(THE DRAW stays)", ClausesEdgesTest::drawStays);
    }

    private static void faults() {
        S.holds("3", "Numbers have 1 or 2 digits (a third one can't stand there)", ClausesEdgesTest::thirdDigit);
        S.holds("3", "-20 less the place of the first letter", ClausesEdgesTest::placeOfTheFirstLetter);
        S.holds("3", "the first letter (behind blanks) that can't stand there", ClausesEdgesTest::placeBehindBlanks);
        S.holds("3", "or of the number's first digit, if it is not as told", ClausesEdgesTest::placeOfTheNumber);
        S.holds("3", "(the end: how many there are)", ClausesEdgesTest::placeOfTheEnd);
        S.holds("3", "blanks count for nothing", ClausesEdgesTest::blanksCountForNothing);
        S.holds("3", "but end a number", ClausesEdgesTest::blanksEndANumber);
    }

    /** What a text answers on a new object. */
    private static void text(String text, int want) {
        S.due("\"" + text + "\"", Checks.tell(new KnotLaw(), text), want);
    }

    private static void fault(String text, int place) {
        text(text, -20 - place);
    }

    // ---- clauses

    private static void newObject() {
        KnotLaw x = new KnotLaw();
        for (int what = 0; what < 8; what++) {
            S.due("count(" + what + ")", x.count(what), 0);
        }
        for (int c = 0; c < 8; c++) {
            S.due("of(" + c + ", 0)", x.of(c, 0), BAD);
            S.due("cut(" + c + ")", x.cut(c), BAD);
        }
        for (int p = 0; p < 4; p++) {
            S.due("owes", x.party(p, 0), 0);
            S.due("bound", x.party(p, 1), 0);
            S.due("frees", x.frees(p, 0), 0);
        }
        S.due("pull", x.falls(99), 0);
        S.due("deep", x.deep(), 0);
        S.due("orders", x.orders(-1), 1);
        S.due("undo", x.undo(), KnotLaw.NONE);
        S.due("restore", x.restore(), KnotLaw.NONE);
        S.due("the draw", x.seed(1), 1);
        S.due("an empty tape", x.agreement(), -20);
    }

    private static void clauseBad() {
        S.allDue("kind", v -> new KnotLaw().clause(v, 1, 0, 0), BAD, -1, 5, 6, MIN, MAX);
        S.allDue("kind", v -> new KnotLaw().clause(v, 1, 0, 0), 0, 0, 1, 2, 3, 4);
        S.allDue("holds", v -> new KnotLaw().clause(0, v, 0, 0), BAD, -1, 0, 21, MIN, MAX);
        S.allDue("barred", v -> new KnotLaw().clause(0, 1, v, 0), BAD, -1, 1, 2, 256, MIN, MAX);
        S.allDue("party", v -> new KnotLaw().clause(0, 1, 0, v), BAD, -1, 4, MIN, MAX);
        KnotLaw x = new KnotLaw();
        x.clause(9, 9, 9, 9);
        S.due("refused: none", x.count(0), 0);
        S.due("the first still is 0", x.clause(4, 20, 0, 3), 0);
    }

    private static void barredByNoLesserOne() {
        KnotLaw x = Checks.told("h1,h2,h3");
        S.allDue("itself", v -> x.clause(0, 1, v, 0), BAD, 8, 9, 15);
        S.allDue("later ones", v -> x.clause(0, 1, v, 0), BAD, 16, 128, 17);
        S.allDue("beyond 7", v -> x.clause(0, 1, v, 0), BAD, 256, 257, 1 << 30, MIN, MIN + 7, -1, -8);
        S.due("all lesser ones", x.clause(0, 1, 7, 0), 3);
        KnotLaw y = Checks.told(EIGHT);
        S.due("a ninth by itself", y.clause(0, 1, 256, 0), BAD);
        S.due("a ninth by a lesser one", y.clause(0, 1, 128, 0), KnotLaw.FULL);
    }

    private static void eightAreFull() {
        KnotLaw x = new KnotLaw();
        for (int c = 0; c < 8; c++) {
            S.due("clause", x.clause(c % 5, c + 1, 0, c % 4), c);
        }
        S.due("a ninth", x.clause(0, 1, 0, 0), KnotLaw.FULL);
        S.due("a ninth, UNDONE ones make no room", full(), KnotLaw.FULL);
        S.due("clauses", x.count(0), 8);
        S.due("the eighth stays", x.of(7, 1), 8);
        S.due("an agreement makes room", Checks.tell(x, "h1"), 1);
        S.due("the second", x.clause(0, 1, 1, 0), 1);
    }

    private static int full() {
        KnotLaw x = Checks.told(EIGHT);
        x.pull(99);
        return x.clause(0, 1, 0, 0);
    }

    private static void ofBad() {
        KnotLaw x = Checks.told("h3,s4");
        S.allDue("clause", v -> x.of(v, 0), BAD, -1, 2, 7, 8, 32, MIN, MAX);
        S.allDue("what", v -> x.of(1, v), BAD, -1, 7, 8, MIN, MAX);
        S.due("both", x.of(2, 7), BAD);
        S.due("the last what of the last clause", x.of(1, 6), 14);
    }

    private static void ofUndone() {
        KnotLaw x = Checks.told("h3,s4/0");
        S.due("TIED", x.of(0, 4), 1);
        S.due("FREE", x.of(0, 5), 1);
        S.due("barred: TIED", x.of(1, 4), 1);
        S.due("barred: not FREE", x.of(1, 5), 0);
        x.cut(0);
        S.due("UNDONE", x.of(0, 4), 0);
        S.due("UNDONE is not FREE", x.of(0, 5), 0);
        S.due("its FIRMNESS is told still", x.of(0, 6), 3);
        S.due("FREE then", x.of(1, 5), 1);
    }

    private static void partyBad() {
        KnotLaw x = Checks.told("h3@0,s4@3");
        S.allDue("party", v -> x.party(v, 0), BAD, -1, 4, 32, MIN, MAX);
        S.allDue("party", v -> x.party(v, 1), BAD, -1, 4, 32, MIN, MAX);
        S.allDue("what", v -> x.party(0, v), BAD, -1, 2, MIN, MAX);
        S.due("BOUND", x.party(3, 1), 1);
        S.due("not BOUND", x.party(2, 1), 0);
    }

    private static void partyOwes() {
        KnotLaw x = new KnotLaw();
        S.due("no clauses", x.party(0, 0), 0);
        Checks.tell(x, EIGHT);
        S.due("all", x.party(0, 0), 255);
        S.due("none", x.party(1, 0), 0);
        x.pull(99);
        S.due("UNDONE ones, too", x.party(0, 0), 255);
        Checks.tell(x, "h1@1");
        S.due("no clause of before", x.party(0, 0), 0);
    }

    private static void owe() {
        KnotLaw x = Checks.told("h1@3");
        S.due("another", x.owe(0, 0), 3);
        S.due("the same", x.owe(0, 0), 0);
        S.due("another", x.owe(0, 3), 0);
        S.due("now", x.of(0, 3), 3);
        x.cut(0);
        S.due("of an UNDONE one", x.owe(0, 1), 3);
        S.due("is no act", x.count(7), 1);
    }

    private static void oweBad() {
        KnotLaw x = Checks.told("h1@3,h2@1");
        S.allDue("clause", v -> x.owe(v, 0), BAD, -1, 2, 8, 32, MIN, MAX);
        S.allDue("party", v -> x.owe(0, v), BAD, -1, 4, MIN, MAX);
        S.due("refused", x.of(0, 3), 3);
    }

    private static void countBad() {
        KnotLaw x = Checks.told("h1@3,h2@1");
        S.allDue("what", x::count, BAD, -1, 8, 9, MIN, MAX);
        S.due("the first", x.count(0), 2);
        S.due("the last", x.count(7), 0);
    }

    private static void countEmptyAndFull() {
        KnotLaw x = Checks.told(EIGHT);
        for (int k = 1; k <= 12; k++) {
            x.days(1);
            S.due("acts", x.count(7), Math.min(k, 8));
        }
        for (int k = 7; k >= 0; k--) {
            x.undo();
            S.due("acts", x.count(7), k);
        }
        x.undo();
        S.due("no act is left", x.count(7), 0);
    }

    // ---- the tape

    private static void lettersOfTheTape() {
        KnotLaw x = new KnotLaw();
        S.allDue("letter", x::type, BAD, 31, 127, 0, -1, 10, 128, 255, 256 + 'h', -128, MIN, MAX);
        S.due("none came", x.type(32), 1);
        S.due("the last letter", x.type(126), 2);
        S.due("a tilde can't stand there", x.agreement(), -21);
    }

    private static void hundredLetters() {
        KnotLaw x = new KnotLaw();
        for (int n = 1; n <= 100; n++) {
            S.due("letter " + n, x.type(n <= 98 ? ' ' : n == 99 ? 'h' : '7'), n);
        }
        S.due("one more", x.type('7'), KnotLaw.FULL);
        S.due("one more", x.type(' '), KnotLaw.FULL);
        S.due("BAD is named ahead", x.type(127), BAD);
        S.due("the hundredth counts, no other does", x.agreement(), 1);
        S.due("holds", x.of(0, 1), 7);
        S.due("empty then", x.type('h'), 1);
    }

    private static void howManyLetters() {
        KnotLaw x = new KnotLaw();
        S.due("first", x.type('h'), 1);
        S.due("refused", x.type(127), BAD);
        S.due("second", x.type('1'), 2);
        x.image();
        x.restore();
        S.due("third", x.type(' '), 3);
    }

    private static void tapeIsEmptyThen() {
        KnotLaw x = new KnotLaw();
        S.due("taken", Checks.tell(x, "h5"), 1);
        S.due("empty behind an agreement", x.agreement(), -20);
        S.due("first letter", x.type('h'), 1);
        S.due("a fault", x.agreement(), -21);
        S.due("empty behind a fault", x.agreement(), -20);
        S.due("first letter", x.type('s'), 1);
        Rows.type(x, "4");
        S.due("taken", x.agreement(), 1);
        S.due("nothing of the earlier ones", x.of(0, 6), 14);
    }

    private static void faultLeavesAllElse() {
        String[] late = {"", "x", "h1,s2/0@", "h1,s2/0@3,l4/11", EIGHT + ",", EIGHT + "/7", "h21", "g3,g4,g0"};
        int[] places = {0, 0, 8, 14, 23, 24, 1, 7};
        for (int k = 0; k < late.length; k++) {
            String text = late[k];
            T.unchanged("agreement \"" + text + "\"", () -> Twins.midway(""), x -> Checks.tell(x, text),
                -20 - places[k]);
        }
    }

    private static void howManyClauses() {
        for (int n = 1; n <= 8; n++) {
            KnotLaw x = new KnotLaw();
            S.due(n + " clauses", Checks.tell(x, EIGHT.substring(0, 3 * n - 1)), n);
            S.due("clauses", x.count(0), n);
            S.due("TIED", x.count(3), (1 << n) - 1);
        }
    }

    // ---- texts

    private static void oneToEight() {
        fault("", 0);
        text("h1", 1);
        text(EIGHT, 8);
        fault(EIGHT + ",h1", 23);
        fault(EIGHT + ",", 23);
        fault(EIGHT + " ,h1", 24);
        fault("h1h2", 2);
        fault("h1,,h2", 3);
        fault(",h1", 0);
        fault("h1;h2", 2);
    }

    private static void kindLetters() {
        String letters = "hslog";
        for (int kind = 0; kind < 5; kind++) {
            KnotLaw x = Checks.told(letters.charAt(kind) + "9");
            S.due("kind of " + letters.charAt(kind), x.of(0, 0), kind);
        }
        for (char letter = 33; letter < 127; letter++) {
            if (letters.indexOf(letter) < 0) {
                fault(letter + "9", 0);
                fault("h1," + letter + "9", 3);
            }
        }
    }

    private static void number1To20() {
        for (int v = 0; v <= 99; v++) {
            text("h" + v, v >= 1 && v <= 20 ? 1 : -21);
            text("h1,s" + v + "/0", v >= 1 && v <= 20 ? 2 : -24);
        }
        S.due("1", Checks.told("h1").of(0, 1), 1);
        S.due("20", Checks.told("h20").of(0, 1), 20);
        fault("h-1", 1);
        fault("h/1", 1);
        fault("h:1", 1);
        fault("h1:", 2);
    }

    private static void oneDigitOrMore() {
        fault("h1,h2/", 6);
        fault("h1,h2/,h3", 6);
        fault("h1,h2/@1", 6);
        text("h1,h2/0", 2);
        text("h1,h2", 2);
        text("h1,h2,h3/01", 3);
        KnotLaw x = Checks.told(EIGHT + "/0123456");
        S.due("all of them", x.of(7, 2), 127);
        S.due("none of them", Checks.told("h1,h2").of(1, 2), 0);
        fault("h1,h2/0/0", 7);
        // The letters just below 0 and just above 9.
        fault("h1,h2//0", 6);
        fault("h1,h2/:", 6);
        fault(EIGHT + "//", 24);
        fault(EIGHT + "/:", 24);
    }

    private static void digitsRise() {
        fault("h1,h1,h1/00", 10);
        fault("h1,h1,h1/11", 10);
        fault("h1,h1,h1/10", 10);
        fault("h1,h1,h1,h1/021", 14);
        fault(EIGHT + "/01234566", 31);
        text("h1,h1,h1,h1/02", 4);
        S.due("02", Checks.told("h1,h1,h1,h1/02").of(3, 2), 5);
    }

    private static void digitsOfClausesAhead() {
        fault("h1/0", 3);
        fault("h1,h1/1", 6);
        fault("h1,h1/2", 6);
        fault("h1,h1/01", 7);
        fault("h1,h1/9", 6);
        fault(EIGHT + "/7", 24);
        fault(EIGHT + "/8", 24);
        fault(EIGHT + "/67", 25);
        text(EIGHT + "/6", 8);
        fault("h1,h1/x", 6);
        // Clauses of before are no clauses told ahead of it.
        KnotLaw x = Checks.told(EIGHT);
        S.due("h1/0 behind eight", Checks.tell(x, "h1/0"), -23);
    }

    private static void owedByADigit() {
        for (int p = 0; p < 4; p++) {
            S.due("@" + p, Checks.told("h1@" + p).of(0, 3), p);
            S.due("/0@" + p, Checks.told("h1,h1/0@" + p).of(1, 3), p);
        }
        S.due("else", Checks.told("h1@3,h2").of(1, 3), 0);
        fault("h1@4", 3);
        fault("h1@9", 3);
        fault("h1@", 3);
        fault("h1@,h1", 3);
        fault("h1@@1", 3);
        fault("h1@x", 3);
        fault("h1@/", 3);
        fault("h1@:", 3);
        fault("h1@00", 4);
        fault("h1@1@1", 4);
        fault("h1,h1@1/0", 7);
    }

    private static void inPlaceOfAll() {
        KnotLaw x = Twins.midway();
        x.agreement();
        S.due("two for five", Checks.tell(x, "s4@2,l5"), 2);
        int[] want = {2, 0, 0, 3, 3, 5, 0, 0};
        for (int what = 0; what < 8; what++) {
            S.due("count(" + what + ")", x.count(what), want[what]);
        }
        S.due("no third", x.of(2, 0), BAD);
        S.due("not barred any more", x.of(1, 2), 0);
        S.due("the next is the third", x.clause(0, 1, 3, 0), 2);
        KnotLaw y = Twins.full();
        y.agreement();
        S.due("eight for eight", Checks.tell(y, EIGHT), 8);
        S.due("TIED", y.count(3), 255);
        S.due("DAY", y.count(1), 0);
        S.due("WARS", y.count(6), 0);
    }

    private static void drawStays() {
        KnotLaw x = new KnotLaw();
        Checks.tell(x, "h1");
        S.due("1 at first", x.seed(MAX), 1);
        Checks.tell(x, "h2");
        S.due("the greatest", x.seed(0), MAX);
        Checks.tell(x, "h3");
        S.due("0", x.seed(5), 0);
        x.drift(1);
        Checks.tell(x, "h3");
        S.due("as the DRIFT left it", x.seed(5), (int) ((5 * 1103515245L + 12345) % (1L << 31)));
    }

    // ---- faults

    private static void thirdDigit() {
        text("h1", 1);
        text("h01", 1);
        text("h20", 1);
        fault("h011", 3);
        fault("h200", 3);
        fault("h100", 3);
        fault("h123456", 3);
        fault("h1,h020", 6);
        S.due("two digits, the first 0", Checks.told("h07").of(0, 1), 7);
    }

    private static void placeOfTheFirstLetter() {
        fault("x", 0);
        fault("hx", 1);
        fault("h1x", 2);
        fault("h1,x", 3);
        fault("h1,h1/x", 6);
        fault("h1,h1/0x", 7);
        fault("h1,h1/0@x", 8);
        fault("h1,h1/0@1x", 9);
        fault("h1,h1/0@1,x", 10);
        // Of several the first.
        fault("hx1,h21", 1);
        fault("h21,x", 1);
        KnotLaw x = new KnotLaw();
        Rows.type(x, "h1" + " ".repeat(97) + "x");
        S.due("the hundredth letter", x.agreement(), -20 - 99);
    }

    private static void placeBehindBlanks() {
        fault(" x", 1);
        fault("   x", 3);
        fault("h  x", 3);
        fault("h1  x", 4);
        fault("h1 ,  x", 6);
        fault("h1,h1/  x", 8);
        fault("h1,h1/  1", 8);
        fault("h1,h1/0  0", 9);
        fault("h1@  4", 5);
        fault("h1@1  2", 6);
    }

    private static void placeOfTheNumber() {
        fault("h0", 1);
        fault("h00", 1);
        fault("h21", 1);
        fault("h99", 1);
        fault("h  21", 3);
        fault("h  0 ", 3);
        fault("h0,h1", 1);
        fault("h1,s21/0", 4);
        fault("h0x", 1);
        fault("h21x", 1);
    }

    private static void placeOfTheEnd() {
        fault("", 0);
        fault(" ", 1);
        fault("   ", 3);
        fault("h", 1);
        fault("h  ", 3);
        fault("h1,", 3);
        fault("h1, ", 4);
        fault("h1@", 3);
        fault("h1@  ", 5);
        fault("h1,h1/", 6);
        KnotLaw x = new KnotLaw();
        Rows.type(x, "h" + " ".repeat(99));
        S.due("the end of a full tape", x.agreement(), -120);
    }

    private static void blanksCountForNothing() {
        String text = " h 12 , s 3 / 0 @ 2 , l 4 / 0 1 ";
        KnotLaw x = new KnotLaw();
        S.due(text, Checks.tell(x, text), 3);
        S.due("as without them", Twins.rope(x), Twins.rope(Checks.told("h12,s3/0@2,l4/01")));
    }

    private static void blanksEndANumber() {
        fault("h1 2", 3);
        fault("h1  2", 4);
        fault("h2 0", 3);
        fault("h0 1", 1);
        text("h1 ", 1);
        text("h1 ,h2", 2);
        text("h1,h2 /0", 2);
    }
}
