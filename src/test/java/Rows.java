/** Rows of sheets and texts, put in and read back through the public face. */
final class Rows {
    static final int NO_FORCE = -1;

    private Rows() { }

    static void type(KnotLaw x, String text) {
        for (int i = 0; i < text.length(); i++) {
            x.type(text.charAt(i));
        }
    }

    static void lay(KnotLaw x, int sheet, int lane, long... items) {
        x.sheet(sheet, lane, items.length);
        for (int i = 0; i < items.length; i++) {
            x.item(sheet, lane, i, items[i]);
        }
    }

    /** The lane of a sheet, told by calls that are refused; -1 if it holds nothing. */
    static int lane(KnotLaw x, int sheet) {
        for (int lane = 0; lane < 4; lane++) {
            if (x.item(sheet, lane, -1, 0) == KnotLaw.INDEX) {
                return lane;
            }
        }
        return -1;
    }

    /** Makes the rope one hitch, by which items are read, and the next sheet the place where they are read. */
    static void startReading(KnotLaw x, int sheet, int lane) {
        x.agreement();
        Checks.tell(x, "h1");
        lay(x, (sheet + 1) % 4, lane, 0, 1);
    }

    /** An item 0 .. 20: a pull of it undoes hitches that hold as much or less. NO_FORCE: it is not 0 .. 99. */
    static int read(KnotLaw x, int sheet, int lane, int i) {
        int place = (sheet + 1) % 4;
        if (x.copy(sheet, i, place, 0, 1) != 1) {
            throw new IllegalStateException("no item " + i);
        }
        int holds = x.felt(0, place, lane, 0, 1, 1);
        return holds < 0 ? NO_FORCE : Integer.bitCount(holds);
    }

    /** All that a sheet holds; the rope and another sheet are lost by it. */
    static String told(KnotLaw x, int sheet) {
        int lane = lane(x, sheet);
        if (lane < 0) {
            return "nothing " + x.drop(sheet);
        }
        startReading(x, sheet, lane);
        StringBuilder told = new StringBuilder("lane " + lane + ":");
        for (int i = 0; isThere(x, sheet, i); i++) {
            told.append(' ').append(read(x, sheet, lane, i));
        }
        return told.append("; ").append(x.drop(sheet)).toString();
    }

    private static boolean isThere(KnotLaw x, int sheet, int i) {
        return x.copy(sheet, i, (sheet + 1) % 4, 0, 1) == 1;
    }

    static String list(int lane, int... items) {
        StringBuilder told = new StringBuilder("lane " + lane + ":");
        for (int item : items) {
            told.append(' ').append(item);
        }
        return told.append("; ").append(items.length).toString();
    }
}
