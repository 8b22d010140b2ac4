/** Promises 31 to 36. */
public final class SheetsTest {
    private static final int MIN = Integer.MIN_VALUE;
    private static final int MAX = Integer.MAX_VALUE;
    private static final int[] NO_SHEET = {-1, 4, MIN, MAX};
    private static final int ALL_KINDS = 31;
    private static final Checks C = new Checks("SheetsTest");

    public static void main(String[] args) {
        felt();
        feltRefuses();
        feltTakesWholeItems();
        film();
        filmRefuses();
        sheet();
        drop();
        item();
        lowestBits();
        copy();
        copyRefuses();
        C.end();
    }

    private static void row(KnotLaw x, int sheet, int lane, long... items) {
        x.sheet(sheet, lane, items.length);
        for (int i = 0; i < items.length; i++) {
            x.item(sheet, lane, i, items[i]);
        }
    }

    /** Asks for an item, 0 .. 7, as how many a pull undid: by a copy of it in sheet 3, on a rope of its own. */
    private static void itemIs(String call, KnotLaw x, int sheet, int lane, int i, int v) {
        x.sheet(3, lane, 2);
        x.item(3, lane, 0, 50);
        C.due(call + ": copied", x.copy(sheet, i, 3, 1, 1), 1);
        x.image();
        Checks.tell(x, "h1,h1,h1,h1,h1,h1,h1,h1".substring(0, 3 * v + 2));
        x.cut(v);
        C.due(call + ": item " + i + " is " + v, x.felt(v, 3, lane, 0, 1, 0), ALL_KINDS);
        x.restore();
    }

    private static void felt() {
        KnotLaw x = Checks.told("h8,s3,h4/0");
        x.days(1);
        row(x, 0, 2, 7, 7, 8, 1, 8, 1, 13, 1, 99, 0);
        C.due("31 kinds", x.felt(0, 0, 2, 2, 1, 0), Checks.set(0, 2, 4));
        C.due("31 holds", x.felt(0, 0, 2, 2, 1, 1), 0x1fe);
        C.due("31 one behind the other", x.felt(2, 0, 2, 2, 2, 0), Checks.set(0, 2, 4));
        C.due("31 holds", x.felt(2, 0, 2, 2, 2, 1), 0x1fe);
        C.due("31 the one ahead must fall", x.felt(0, 0, 2, 2, 3, 1), 0x1fe);
        C.due("31 splices that hold 3", x.felt(1, 0, 2, 2, 4, 0), Checks.set(1, 3));
        C.due("31 up to nothing left", x.felt(1, 0, 2, 2, 4, 1), Checks.set(1, 2, 3));
        C.due("31 nothing is changed", x.count(3), 7);
        C.due("31 no act", x.count(7), 1);
        x.wet(1);
        C.due("31 wet", x.felt(0, 0, 2, 2, 1, 1), 0x1e);
        x.wet(0);
        x.cut(0);
        C.due("31 undone, as told", x.felt(0, 0, 2, 2, 1, 0), ALL_KINDS);
        C.due("31 undone, as told", x.felt(0, 0, 2, 2, 1, 1), 0x1ffffe);
        C.due("31 undone, not as told", x.felt(0, 0, 2, 2, 2, 0), 0);
        C.due("31 undone, not as told", x.felt(0, 0, 2, 2, 2, 1), 0);
        KnotLaw y = Checks.told("h5,h5/0,h5/1,h5/2,h5/3,h5/4");
        row(y, 3, 0, 5, 1, 5, 1, 5, 1, 5, 1, 5, 1, 5, 1);
        C.due("31 six pairs", y.felt(5, 3, 0, 0, 6, 1), 0x3e);
        C.due("31 a granny on day 0", Checks.told("g9").felt(0, 0, 0, 0, 1, 0), KnotLaw.NULL);
        KnotLaw z = Checks.told("g9");
        row(z, 1, 3, 0, 1);
        C.due("31 kinds on day 0", z.felt(0, 1, 3, 0, 1, 0), Checks.set(4));
        C.due("31 holds on day 0", z.felt(0, 1, 3, 0, 1, 1), 0x1ffffe);
        z.days(1);
        C.due("31 holds on day 1", z.felt(0, 1, 3, 0, 1, 1), 2);
    }

    private static void feltRefuses() {
        KnotLaw x = Checks.told("h8,s3,h4/0");
        row(x, 0, 2, 8, 1, 8, 1, 100, 0);
        for (int bad : new int[] {-1, 3, 8, MIN, MAX}) {
            C.due("31 clause " + bad, x.felt(bad, 0, 2, 0, 1, 0), KnotLaw.BAD);
        }
        for (int bad : NO_SHEET) {
            C.due("31 sheet " + bad, x.felt(0, bad, 2, 0, 1, 0), KnotLaw.BAD);
            C.due("31 lane " + bad, x.felt(0, 0, bad, 0, 1, 0), KnotLaw.BAD);
        }
        for (int bad : new int[] {-1, 0, 7, MIN, MAX}) {
            C.due("31 n " + bad, x.felt(0, 0, 2, 0, bad, 0), KnotLaw.BAD);
        }
        for (int bad : new int[] {-1, 2, MIN, MAX}) {
            C.due("31 what " + bad, x.felt(0, 0, 2, 0, 1, bad), KnotLaw.BAD);
        }
        C.due("31 bad ahead of null", x.felt(0, 1, 2, 0, 7, 0), KnotLaw.BAD);
        C.due("31 null ahead of cast", x.felt(0, 1, 2, 99, 1, 0), KnotLaw.NULL);
        C.due("31 cast ahead of index", x.felt(0, 0, 1, 99, 1, 0), KnotLaw.CAST);
        for (int bad : new int[] {-1, 5, 6, MIN, MAX, MAX - 1}) {
            C.due("31 i " + bad, x.felt(0, 0, 2, bad, 1, 0), KnotLaw.INDEX);
        }
        C.due("31 index ahead of not", x.felt(0, 0, 2, 4, 2, 0), KnotLaw.INDEX);
        C.due("31 not", x.felt(0, 0, 2, 4, 1, 0), KnotLaw.NOT);
        C.due("31 not, also behind what is not so", x.felt(0, 0, 2, 0, 3, 0), KnotLaw.NOT);
        x.item(0, 2, 0, 99);
        C.due("31 99 is fine", x.felt(0, 0, 2, 0, 1, 0), 0);
        x.item(0, 2, 0, -1);
        C.due("31 -1 is not", x.felt(0, 0, 2, 0, 1, 1), KnotLaw.NOT);
    }

    private static void feltTakesWholeItems() {
        KnotLaw x = Checks.told("h8");
        row(x, 0, 3, 8, (1L << 32) + 1, (1L << 32) + 8, 1);
        C.due("31 a count above ints", x.felt(0, 0, 3, 0, 1, 0), 0);
        C.due("31 an f above ints", x.felt(0, 0, 3, 2, 1, 0), KnotLaw.NOT);
    }

    private static void film() {
        KnotLaw x = Checks.told("h1,h1/0,h2/1,h9,h9/3");
        x.sheet(1, 0, 8);
        C.due("32 film", x.film(2, 6, 1, 0, 1), 6);
        int[] want = {0, 4, 3, 2, 2, 2, 2, 0};
        for (int i = 0; i < want.length; i++) {
            itemIs("32 item " + i, x, 1, 0, i, want[i]);
        }
        C.due("32 nothing is changed", x.count(3), 31);
        C.due("32 no act", x.count(7), 0);
        for (int lane = 0; lane < 4; lane++) {
            x.sheet(2, lane, 24);
            C.due("32 lane " + lane, x.film(99, 24, 2, lane, 0), 24);
            itemIs("32 first", x, 2, lane, 0, 3);
            itemIs("32 second", x, 2, lane, 1, 1);
            itemIs("32 last", x, 2, lane, 23, 0);
        }
    }

    private static void filmRefuses() {
        KnotLaw x = Checks.told("h1,h1/0");
        x.sheet(1, 0, 8);
        for (int bad : new int[] {-1, 100, MIN, MAX}) {
            C.due("32 f " + bad, x.film(bad, 1, 1, 0, 0), KnotLaw.BAD);
        }
        for (int bad : new int[] {-1, 0, 25, MIN, MAX}) {
            C.due("32 n " + bad, x.film(0, bad, 1, 0, 0), KnotLaw.BAD);
        }
        for (int bad : NO_SHEET) {
            C.due("32 sheet " + bad, x.film(0, 1, bad, 0, 0), KnotLaw.BAD);
            C.due("32 lane " + bad, x.film(0, 1, 1, bad, 0), KnotLaw.BAD);
        }
        C.due("32 bad ahead of null", x.film(0, 25, 0, 0, 0), KnotLaw.BAD);
        C.due("32 null ahead of cast", x.film(0, 1, 0, 0, -1), KnotLaw.NULL);
        C.due("32 cast ahead of index", x.film(0, 1, 1, 1, -1), KnotLaw.CAST);
        for (int bad : new int[] {-1, 8, MIN, MAX}) {
            C.due("32 i " + bad, x.film(0, 1, 1, 0, bad), KnotLaw.INDEX);
        }
        C.due("32 too long", x.film(0, 2, 1, 0, 7), KnotLaw.INDEX);
        itemIs("32 refused changes nothing", x, 1, 0, 7, 0);
        C.due("32 just so long", x.film(0, 2, 1, 0, 6), 2);
    }

    private static void sheet() {
        KnotLaw x = new KnotLaw();
        for (int s = 0; s < 4; s++) {
            for (int lane = 0; lane < 4; lane++) {
                C.due("33 sheet", x.sheet(s, lane, 6 * s + lane), 6 * s + lane);
            }
        }
        C.due("33 nothing in it", x.sheet(0, 0, 0), 0);
        C.due("33 24", x.sheet(0, 0, 24), 24);
        C.due("33 25", x.sheet(0, 0, 25), KnotLaw.BAD);
        C.due("33 MAX", x.sheet(0, 0, MAX), KnotLaw.BAD);
        C.due("33 -1", x.sheet(0, 0, -1), KnotLaw.SIZE);
        C.due("33 MIN", x.sheet(0, 0, MIN), KnotLaw.SIZE);
        for (int bad : NO_SHEET) {
            C.due("33 sheet " + bad, x.sheet(bad, 0, -1), KnotLaw.BAD);
            C.due("33 lane " + bad, x.sheet(0, bad, -1), KnotLaw.BAD);
        }
        C.due("33 refused", x.drop(0), 24);
        KnotLaw y = Checks.told("h1");
        row(y, 0, 0, 1, 2, 3);
        y.sheet(0, 0, 3);
        for (int i = 0; i < 3; i++) {
            itemIs("33 a new row is of 0", y, 0, 0, i, 0);
        }
    }

    private static void drop() {
        KnotLaw x = new KnotLaw();
        x.sheet(2, 1, 7);
        C.due("34 how many", x.drop(2), 7);
        C.due("34 nothing", x.drop(2), KnotLaw.NULL);
        x.sheet(2, 1, 0);
        C.due("34 none in it", x.drop(2), 0);
        for (int bad : NO_SHEET) {
            C.due("34 sheet " + bad, x.drop(bad), KnotLaw.BAD);
        }
        C.due("34 then item", x.item(2, 1, 0, 0), KnotLaw.NULL);
    }

    private static void item() {
        KnotLaw x = new KnotLaw();
        x.sheet(2, 1, 3);
        C.due("35 first", x.item(2, 1, 0, 5), 1);
        C.due("35 last", x.item(2, 1, 2, Long.MIN_VALUE), 1);
        for (int bad : new int[] {-1, 3, MIN, MAX}) {
            C.due("35 i " + bad, x.item(2, 1, bad, 0), KnotLaw.INDEX);
        }
        C.due("35 cast ahead of index", x.item(2, 2, 3, 0), KnotLaw.CAST);
        C.due("35 null ahead of cast", x.item(1, 2, 3, 0), KnotLaw.NULL);
        for (int bad : NO_SHEET) {
            C.due("35 sheet " + bad, x.item(bad, 1, 0, 0), KnotLaw.BAD);
            C.due("35 lane " + bad, x.item(1, bad, 0, 0), KnotLaw.BAD);
        }
        x.sheet(3, 0, 0);
        C.due("35 no items", x.item(3, 0, 0, 0), KnotLaw.INDEX);
    }

    private static void lowestBits() {
        long[] justOver = {1L << 8, 1L << 16, 1L << 32};
        for (int lane = 0; lane < 4; lane++) {
            KnotLaw x = Checks.told("h1");
            x.sheet(0, lane, 2);
            x.item(0, lane, 1, 1);
            for (int bits = 0; bits < 3; bits++) {
                x.item(0, lane, 0, justOver[bits] + 1);
                boolean fits = lane <= bits;
                C.due("35 lane " + lane + ", bits " + bits, x.felt(0, 0, lane, 0, 1, 1), fits ? 2 : KnotLaw.NOT);
            }
            // The highest bit of a lane makes an item less than 0: no f, nor a count.
            x.item(0, lane, 0, lane == 3 ? Long.MIN_VALUE + 1 : justOver[lane] / 2 + 1);
            C.due("35 lane " + lane + ", below 0", x.felt(0, 0, lane, 0, 1, 1), KnotLaw.NOT);
        }
    }

    private static void copy() {
        KnotLaw x = Checks.told("h1");
        row(x, 0, 1, 1, 2, 3, 4, 5, 6);
        x.sheet(1, 1, 4);
        C.due("36 to another", x.copy(0, 2, 1, 1, 3), 3);
        itemsAre(x, 1, 0, 3, 4, 5);
        C.due("36 to itself, up", x.copy(0, 0, 0, 1, 5), 5);
        itemsAre(x, 0, 1, 1, 2, 3, 4, 5);
        C.due("36 to itself, down", x.copy(0, 2, 0, 0, 4), 4);
        itemsAre(x, 0, 2, 3, 4, 5, 4, 5);
        C.due("36 none", x.copy(0, 6, 1, 4, 0), 0);
        C.due("36 all", x.copy(1, 0, 0, 0, 4), 4);
        itemsAre(x, 0, 0, 3, 4, 5, 4, 5);
        itemsAre(x, 1, 0, 3, 4, 5);
    }

    private static void itemsAre(KnotLaw x, int sheet, int... items) {
        for (int i = 0; i < items.length; i++) {
            itemIs("36 sheet " + sheet, x, sheet, 1, i, items[i]);
        }
    }

    private static void copyRefuses() {
        KnotLaw x = new KnotLaw();
        x.sheet(0, 1, 6);
        x.sheet(1, 1, 4);
        x.sheet(2, 2, 6);
        for (int bad : NO_SHEET) {
            C.due("36 from " + bad, x.copy(bad, 0, 0, 0, 0), KnotLaw.BAD);
            C.due("36 to " + bad, x.copy(3, 0, bad, 0, 0), KnotLaw.BAD);
        }
        C.due("36 from nothing", x.copy(3, -1, 2, 0, 1), KnotLaw.NULL);
        C.due("36 to nothing", x.copy(2, -1, 3, 0, 1), KnotLaw.NULL);
        C.due("36 unlike lanes", x.copy(0, -1, 2, 0, 1), KnotLaw.CAST);
        int[][] bad = {{-1, 0, 1}, {0, -1, 1}, {0, 0, -1}, {4, 0, 3}, {0, 2, 3}, {7, 0, 0}, {0, 5, 0},
            {0, 0, 5}, {MAX, 0, 1}, {0, MAX, 1}, {0, 0, MAX}, {1, 1, MAX}, {MIN, 0, 0}, {0, MIN, 0}, {0, 0, MIN}};
        for (int[] b : bad) {
            C.due("36 copy(0, " + b[0] + ", 1, " + b[1] + ", " + b[2] + ")", x.copy(0, b[0], 1, b[1], b[2]), KnotLaw.INDEX);
        }
    }
}
