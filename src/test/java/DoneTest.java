/** Promises 9 to 16. */
public final class DoneTest {
    private static final int MIN = Integer.MIN_VALUE;
    private static final int MAX = Integer.MAX_VALUE;
    private static final Checks C = new Checks("DoneTest");

    public static void main(String[] args) {
        pull();
        cut();
        tie();
        wet();
        days();
        drift();
        drawsAtTheEdges();
        driftIsManyActs();
        undo();
        undoForgets();
        undoOfEach();
        seed();
        C.end();
    }

    private static void pull() {
        KnotLaw x = Checks.told("h5,h2/0,s1,l20/2,h6");
        C.due("9 too weak", x.pull(4), 0);
        C.due("9 just the free", x.pull(5), 1);
        C.due("9 at once, not one behind the other", x.pull(10), Checks.set(1, 4));
        C.due("9 99", x.pull(99), 4);
        C.due("9 the last", x.pull(10), 8);
        C.due("9 nothing left", x.pull(99), 0);
        C.due("9 acts, those that undo nothing too", x.count(7), 6);
        for (int bad : new int[] {-1, 100, MIN, MAX}) {
            C.due("9 f " + bad, x.pull(bad), KnotLaw.BAD);
        }
        C.due("9 refused is no act", x.count(7), 6);
        C.due("9 a granny's void", Checks.told("g20").pull(0), 1);
        C.due("9 a slip of 1", Checks.told("l1").pull(0), 1);
        KnotLaw y = Checks.told("o20");
        for (int k = 0; k < 101; k++) {
            y.days(99);
        }
        C.due("9 an old oath", y.pull(99), 0);
    }

    private static void cut() {
        KnotLaw x = Checks.told("h5,h2/0,h3/1");
        C.due("10 barred", x.cut(1), 5);
        C.due("10 war", x.count(6), 1);
        C.due("10 again", x.cut(1), KnotLaw.NOT);
        C.due("10 no war more", x.count(6), 1);
        C.due("10 the next", x.cut(0), 4);
        C.due("10 wars", x.count(6), 2);
        C.due("10 acts", x.count(7), 2);
        for (int bad : new int[] {-1, 3, 8, 32, MIN, MAX}) {
            C.due("10 clause " + bad, x.cut(bad), KnotLaw.BAD);
        }
    }

    private static void tie() {
        KnotLaw x = Checks.told("h5,h2/0,h3/1");
        C.due("11 it is", x.tie(1), KnotLaw.NOT);
        x.cut(0);
        x.cut(1);
        C.due("11 tied", x.tie(1), 6);
        C.due("11 it is", x.tie(1), KnotLaw.NOT);
        C.due("11 tied", x.tie(0), 7);
        C.due("11 bars again", x.of(1, 5), 0);
        C.due("11 acts", x.count(7), 4);
        C.due("11 wars stay", x.count(6), 2);
        for (int bad : new int[] {-1, 3, 8, 32, MIN, MAX}) {
            C.due("11 clause " + bad, x.tie(bad), KnotLaw.BAD);
        }
    }

    private static void wet() {
        KnotLaw x = Checks.told("h5,s2,l3,h9");
        x.cut(3);
        C.due("12 dry it is", x.wet(0), KnotLaw.NOT);
        C.due("12 wet", x.wet(1), 10 + 14 + 3);
        C.due("12 wet it is", x.wet(1), KnotLaw.NOT);
        C.due("12 dry", x.wet(0), 5 + 12 + 1);
        C.due("12 acts", x.count(7), 3);
        for (int bad : new int[] {-1, 2, MIN, MAX}) {
            C.due("12 is " + bad, x.wet(bad), KnotLaw.BAD);
        }
        C.due("12 no clauses", new KnotLaw().wet(1), 0);
    }

    private static void days() {
        KnotLaw x = new KnotLaw();
        C.due("13 one", x.days(1), 1);
        C.due("13 99", x.days(99), 100);
        C.due("13 one act each", x.count(7), 2);
        for (int bad : new int[] {-1, 0, 100, MIN, MAX}) {
            C.due("13 n " + bad, x.days(bad), KnotLaw.BAD);
        }
        for (int k = 0; k < 99; k++) {
            x.days(99);
        }
        C.due("13 day", x.count(1), 9901);
        C.due("13 full", x.days(99), KnotLaw.FULL);
        C.due("13 bad ahead of full", x.days(100), KnotLaw.BAD);
        C.due("13 the last", x.days(98), 9999);
        C.due("13 full", x.days(1), KnotLaw.FULL);
        C.due("14 full", x.drift(1), KnotLaw.FULL);
        C.due("14 bad ahead of full", x.drift(41), KnotLaw.BAD);
        x.undo();
        x.days(58);
        C.due("14 day", x.count(1), 9959);
        x.drift(1);
        C.due("14 day", x.count(1), 9960);
        C.due("14 full", x.drift(40), KnotLaw.FULL);
        C.due("14 refused", x.count(1), 9960);
        C.due("14 up to the last", x.drift(39), 0);
        C.due("14 day", x.count(1), 9999);
    }

    /** From 1 the draws are 1103527590, 377401575, 662824084, 1147902781, 2035015474, 368800899, 1508029952. */
    private static void drift() {
        int[] wet = {0, 0, 1, 0, 0, 0, 1};
        int[] force = {29, 19, 13, 0, 28, 27, 4};
        String text = "s20,h13,l13/1,s5/1,h20/2,l6/3,g20/4";
        KnotLaw x = Checks.told(text);
        KnotLaw y = Checks.told(text);
        for (int k = 0; k < 7; k++) {
            C.due("14 drift", x.drift(1), likeByHand(y, wet[k], force[k]));
            C.due("14 weather", x.count(2), wet[k]);
            C.due("14 day", x.count(1), k + 1);
        }
        C.due("14 the draw", x.seed(0), 1508029952);
        for (int bad : new int[] {-1, 0, 41, MIN, MAX}) {
            C.due("14 n " + bad, x.drift(bad), KnotLaw.BAD);
        }
        C.due("14 refused", x.seed(0), 0);
        x.drift(1);
        C.due("14 from 0", x.seed(MAX), 12345);
        x.drift(1);
        C.due("14 from the greatest", x.seed(1), (MAX * 1103515245L + 12345L) % (1L << 31));
        C.due("14 seven at once", Checks.told(text).drift(7), y.count(3));
        // The pull comes on the day that goes by, with a granny being void on day 0.
        KnotLaw w = Checks.told("g20");
        w.seed(0);
        C.due("14 a pull ahead of the next day", w.drift(1), 0);
    }

    private static int likeByHand(KnotLaw y, int wet, int force) {
        y.wet(wet);
        y.pull(force);
        y.days(1);
        return y.count(3);
    }

    /** Draws whose part by 65536 has just become, or is about to become, another number; and those by 128. */
    private static void drawsAtTheEdges() {
        int[] seeds = {1051108995, 1340914462, 995212062, 705406595, 632137347, 921942814};
        int[] draws = {196608, 196607, 262143, 262144, 2147352576, 2147352575};
        int[] wet = {1, 0, 1, 0, 1, 0};
        int[] force = {6, 5, 7, 8, 12, 11};
        for (int k = 0; k < seeds.length; k++) {
            // Twice as firm if it is wet, so the first falls by just this pull and the second just not.
            int holds = force[k] / (1 + wet[k]);
            KnotLaw x = new KnotLaw();
            x.clause(0, holds, 0, 0);
            x.clause(0, holds + 1, 0, 0);
            x.seed(seeds[k]);
            C.due("14 a pull by draw " + draws[k], x.drift(1), 2);
            C.due("14 the weather by draw " + draws[k], x.count(2), wet[k]);
            C.due("14 draw " + draws[k], x.seed(0), draws[k]);
        }
    }

    private static void driftIsManyActs() {
        KnotLaw x = Checks.told("h12,h13,h12/0,s5/1,h20");
        x.drift(5);
        C.due("14 acts", x.count(7), 5);
        C.due("14 one day is taken back", x.undo(), 4);
        C.due("14 day", x.count(1), 4);
        KnotLaw y = Checks.told("h12,h13,h12/0,s5/1,h20");
        y.drift(4);
        C.due("14 tied", x.count(3), y.count(3));
        C.due("14 wet", x.count(2), y.count(2));
        C.due("14 the draw is taken back", x.seed(0), y.seed(0));
        KnotLaw z = Checks.told("h12");
        z.drift(40);
        C.due("14 eight are known", z.count(7), 8);
        C.due("14 taken back", z.undo(), 7);
        C.due("14 day", z.count(1), 39);
    }

    private static void undo() {
        KnotLaw x = Checks.told("h5,h2/0,h9");
        x.seed(40);
        x.pull(5);
        x.cut(2);
        x.tie(0);
        x.wet(1);
        x.days(50);
        x.seed(41);
        x.owe(0, 3);
        C.due("15 days", x.undo(), 4);
        C.due("15 day", x.count(1), 0);
        C.due("15 the draw, whatever was told since", x.seed(42), 40);
        C.due("15 owed stays", x.of(0, 3), 3);
        C.due("15 wet", x.undo(), 3);
        C.due("15 weather", x.count(2), 0);
        C.due("15 tie", x.undo(), 2);
        C.due("15 tied", x.count(3), 2);
        C.due("15 cut", x.undo(), 1);
        C.due("15 tied", x.count(3), 6);
        C.due("15 wars", x.count(6), 0);
        C.due("15 pull", x.undo(), 0);
        C.due("15 tied", x.count(3), 7);
        C.due("15 none", x.undo(), KnotLaw.NONE);
        x.pull(5);
        C.due("15 one more", x.count(7), 1);
    }

    private static void undoForgets() {
        KnotLaw x = new KnotLaw();
        for (int k = 1; k <= 11; k++) {
            x.days(k);
            C.due("15 known", x.count(7), Math.min(k, 8));
        }
        int day = 66;
        for (int k = 11; k > 3; k--) {
            C.due("15 more", x.undo(), k - 4);
            day -= k;
            C.due("15 day", x.count(1), day);
        }
        C.due("15 older ones are lost", x.undo(), KnotLaw.NONE);
        C.due("15 day", x.count(1), 6);
    }

    private static void undoOfEach() {
        KnotLaw x = Checks.told("h5,h2,h9");
        x.cut(0);
        x.cut(1);
        x.wet(1);
        x.days(4);
        x.pull(99);
        C.due("15 pull", x.undo(), 4);
        stateIs(x, 4, 2, 4, 1);
        x.wet(0);
        C.due("15 dry", x.undo(), 4);
        stateIs(x, 4, 2, 4, 1);
        C.due("15 days", x.undo(), 3);
        stateIs(x, 4, 2, 0, 1);
        C.due("15 wet", x.undo(), 2);
        stateIs(x, 4, 2, 0, 0);
        C.due("15 cut", x.undo(), 1);
        stateIs(x, 6, 1, 0, 0);
        C.due("15 cut", x.undo(), 0);
        stateIs(x, 7, 0, 0, 0);
    }

    private static void stateIs(KnotLaw x, int tied, int wars, int day, int wet) {
        C.due("15 tied", x.count(3), tied);
        C.due("15 wars", x.count(6), wars);
        C.due("15 day", x.count(1), day);
        C.due("15 wet", x.count(2), wet);
    }

    private static void seed() {
        KnotLaw x = new KnotLaw();
        C.due("16 at first", x.seed(MAX), 1);
        C.due("16 bad", x.seed(-1), KnotLaw.BAD);
        C.due("16 bad", x.seed(MIN), KnotLaw.BAD);
        C.due("16 stays", x.seed(0), MAX);
        C.due("16 zero", x.seed(3), 0);
        C.due("16 no act", x.count(7), 0);
    }
}
