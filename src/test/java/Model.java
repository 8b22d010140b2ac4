import java.lang.reflect.Array;
import java.math.BigInteger;
import java.util.ArrayList;
import java.util.List;
import java.util.TreeSet;

/**
 * The document's words taken by brute force: every pull is tried, every order walked through, every cut set and every
 * rotten set gone through. Slow and apart from KnotLaw's ways, so that both agree only if both are right.
 */
final class Model {
    static final int BAD = -1, NOT = -2, FULL = -3, NONE = -4, NULL = -11, CAST = -12, INDEX = -13, SIZE = -14;

    /** One clause, copied whenever a state is. */
    private static final class Knot {
        int kind, holds, party;
        boolean tied = true;
        TreeSet<Integer> bars = new TreeSet<>();

        Knot copy() {
            Knot k = new Knot();
            k.kind = kind;
            k.holds = holds;
            k.party = party;
            k.tied = tied;
            k.bars = new TreeSet<>(bars);
            return k;
        }

        int firm(boolean wet, int day) {
            int hitch = holds * (wet ? 2 : 1);
            int[] byKind = {hitch, hitch + 10, hitch / 2, hitch + 10 + day / 10, day % 7 == 0 ? 0 : hitch / 2};
            return byKind[kind];
        }
    }

    private static final class World {
        List<Knot> knots = new ArrayList<>();
        boolean wet;
        int day, wars;
        long draw = 1;

        World copy() {
            World w = new World();
            for (Knot k : knots) {
                w.knots.add(k.copy());
            }
            w.wet = wet;
            w.day = day;
            w.wars = wars;
            w.draw = draw;
            return w;
        }

        boolean free(int c) {
            Knot k = knots.get(c);
            return k.tied && k.bars.stream().noneMatch(b -> knots.get(b).tied);
        }

        int tiedSet() {
            int set = 0;
            for (int c = 0; c < knots.size(); c++) {
                set += knots.get(c).tied ? 1 << c : 0;
            }
            return set;
        }

        int pull(int f) {
            List<Integer> falling = new ArrayList<>();
            for (int c = 0; c < knots.size(); c++) {
                if (free(c) && knots.get(c).firm(wet, day) <= f) {
                    falling.add(c);
                }
            }
            int set = 0;
            for (int c : falling) {
                knots.get(c).tied = false;
                set |= 1 << c;
            }
            return set;
        }
    }

    private World now = new World();
    private List<World> past = new ArrayList<>();
    private World kept = null;
    private List<World> keptPast = null;
    private String tape = "";
    private final Object[] sheets = new Object[4];

    private boolean in(long v, long least, long most) {
        return least <= v && v <= most;
    }

    private boolean noClause(int c) {
        return !in(c, 0, now.knots.size() - 1);
    }

    int clause(int kind, int holds, int barred, int party) {
        if (!in(kind, 0, 4) || !in(holds, 1, 20) || !in(party, 0, 3)) {
            return BAD;
        }
        if (barred < 0 || barred >= Math.pow(2, now.knots.size())) {
            return BAD;
        }
        if (now.knots.size() == 8) {
            return FULL;
        }
        Knot k = new Knot();
        k.kind = kind;
        k.holds = holds;
        k.party = party;
        for (int b = 0; b < 8; b++) {
            if ((barred / (1 << b)) % 2 == 1) {
                k.bars.add(b);
            }
        }
        now.knots.add(k);
        past.clear();
        return now.knots.size() - 1;
    }

    int of(int c, int what) {
        if (noClause(c) || !in(what, 0, 6)) {
            return BAD;
        }
        Knot k = now.knots.get(c);
        int bars = k.bars.stream().mapToInt(b -> 1 << b).sum();
        int[] all = {k.kind, k.holds, bars, k.party, k.tied ? 1 : 0, now.free(c) ? 1 : 0, k.firm(now.wet, now.day)};
        return all[what];
    }

    int party(int p, int what) {
        if (!in(p, 0, 3) || !in(what, 0, 1)) {
            return BAD;
        }
        int set = 0;
        int bound = 0;
        for (int c = 0; c < now.knots.size(); c++) {
            if (now.knots.get(c).party == p) {
                set |= 1 << c;
                bound = now.knots.get(c).tied ? 1 : bound;
            }
        }
        return what == 0 ? set : bound;
    }

    int owe(int c, int p) {
        if (noClause(c) || !in(p, 0, 3)) {
            return BAD;
        }
        int before = now.knots.get(c).party;
        now.knots.get(c).party = p;
        return before;
    }

    int type(int letter) {
        if (!in(letter, 32, 126)) {
            return BAD;
        }
        if (tape.length() == 100) {
            return FULL;
        }
        tape += (char) letter;
        return tape.length();
    }

    private enum Due { KIND, NUMBER, SECOND, BEHIND_NUMBER, FIRST_BAR, BAR, OWER, BEHIND_OWER }

    /** A letter after the other, by what may come next; the text is told apart only once it has no fault. */
    private static int faultOf(String text) {
        Due due = Due.KIND;
        int clauses = 0;
        int start = 0;
        int bar = -1;
        for (int i = 0; i <= text.length(); i++) {
            char c = i < text.length() ? text.charAt(i) : 0;
            boolean isDigit = c >= '0' && c <= '9';
            if (due == Due.SECOND) {
                int value = Integer.parseInt(text.substring(start, isDigit ? i + 1 : i));
                if (value < 1 || value > 20) {
                    return start;
                }
                due = Due.BEHIND_NUMBER;
                if (isDigit) {
                    continue;
                }
            }
            if (c == ' ') {
                continue;
            }
            boolean mayEnd = due == Due.BEHIND_NUMBER || due == Due.BAR || due == Due.BEHIND_OWER;
            boolean isBar = isDigit && c - '0' > bar && c - '0' < clauses - 1;
            if (c == 0) {
                return mayEnd ? -1 : i;
            } else if (due == Due.KIND && "hslog".indexOf(c) >= 0) {
                due = Due.NUMBER;
                clauses++;
                bar = -1;
            } else if (due == Due.NUMBER && isDigit) {
                due = Due.SECOND;
                start = i;
            } else if (due == Due.BEHIND_NUMBER && c == '/') {
                due = Due.FIRST_BAR;
            } else if ((due == Due.FIRST_BAR || due == Due.BAR) && isBar) {
                due = Due.BAR;
                bar = c - '0';
            } else if ((due == Due.BEHIND_NUMBER || due == Due.BAR) && c == '@') {
                due = Due.OWER;
            } else if (due == Due.OWER && c >= '0' && c <= '3') {
                due = Due.BEHIND_OWER;
            } else if (mayEnd && c == ',' && clauses < 8) {
                due = Due.KIND;
            } else {
                return i;
            }
        }
        return -1;
    }

    int agreement() {
        String text = tape;
        tape = "";
        int fault = faultOf(text);
        if (fault >= 0) {
            return -20 - fault;
        }
        World w = new World();
        w.draw = now.draw;
        for (String one : text.replace(" ", "").split(",")) {
            String bare = one.contains("@") ? one.substring(0, one.indexOf('@')) : one;
            Knot k = new Knot();
            k.kind = "hslog".indexOf(one.charAt(0));
            k.party = one.contains("@") ? one.charAt(one.length() - 1) - '0' : 0;
            String[] sides = bare.substring(1).split("/");
            k.holds = Integer.parseInt(sides[0]);
            for (int i = 0; sides.length == 2 && i < sides[1].length(); i++) {
                k.bars.add(sides[1].charAt(i) - '0');
            }
            w.knots.add(k);
        }
        now = w;
        past.clear();
        return w.knots.size();
    }

    int count(int what) {
        int bound = 0;
        int free = 0;
        for (int p = 0; p < 4; p++) {
            bound += party(p, 1) << p;
        }
        for (int c = 0; c < now.knots.size(); c++) {
            free += now.free(c) ? 1 << c : 0;
        }
        int[] all = {now.knots.size(), now.day, now.wet ? 1 : 0, now.tiedSet(), free, bound, now.wars, past.size()};
        return in(what, 0, 7) ? all[what] : BAD;
    }

    private void act() {
        past.add(now.copy());
        if (past.size() > 8) {
            past.remove(0);
        }
    }

    int pull(int f) {
        if (!in(f, 0, 99)) {
            return BAD;
        }
        act();
        return now.pull(f);
    }

    int cut(int c) {
        if (noClause(c)) {
            return BAD;
        }
        if (!now.knots.get(c).tied) {
            return NOT;
        }
        act();
        now.knots.get(c).tied = false;
        now.wars++;
        return now.tiedSet();
    }

    int tie(int c) {
        if (noClause(c)) {
            return BAD;
        }
        if (now.knots.get(c).tied) {
            return NOT;
        }
        act();
        now.knots.get(c).tied = true;
        return now.tiedSet();
    }

    int wet(int is) {
        if (!in(is, 0, 1)) {
            return BAD;
        }
        if (now.wet == (is == 1)) {
            return NOT;
        }
        act();
        now.wet = is == 1;
        return now.knots.stream().filter(k -> k.tied).mapToInt(k -> k.firm(now.wet, now.day)).sum();
    }

    int days(int n) {
        if (!in(n, 1, 99)) {
            return BAD;
        }
        if (now.day + n > 9999) {
            return FULL;
        }
        act();
        now.day += n;
        return now.day;
    }

    int drift(int n) {
        if (!in(n, 1, 40)) {
            return BAD;
        }
        if (now.day + n > 9999) {
            return FULL;
        }
        for (int k = 0; k < n; k++) {
            act();
            BigInteger next = BigInteger.valueOf(now.draw).multiply(BigInteger.valueOf(1103515245)).add(BigInteger.valueOf(12345));
            now.draw = next.mod(BigInteger.ONE.shiftLeft(31)).longValue();
            now.wet = (now.draw / 65536) % 3 == 0;
            now.pull((int) ((now.draw / 128) % 30));
            now.day++;
        }
        return now.tiedSet();
    }

    int undo() {
        if (past.isEmpty()) {
            return NONE;
        }
        World w = past.remove(past.size() - 1);
        for (int c = 0; c < w.knots.size(); c++) {
            now.knots.get(c).tied = w.knots.get(c).tied;
        }
        now.wars = w.wars;
        now.wet = w.wet;
        now.day = w.day;
        now.draw = w.draw;
        return past.size();
    }

    int seed(int v) {
        if (v < 0) {
            return BAD;
        }
        int before = (int) now.draw;
        now.draw = v;
        return before;
    }

    int falls(int f) {
        return in(f, 0, 99) ? now.copy().pull(f) : BAD;
    }

    int pulls(int c, int f) {
        if (noClause(c) || !in(f, 0, 99)) {
            return BAD;
        }
        World w = now.copy();
        for (int n = 0; n <= 20; n++) {
            if (!w.knots.get(c).tied) {
                return n;
            }
            w.pull(f);
        }
        return NONE;
    }

    int force(int c, int n) {
        if (noClause(c) || !in(n, 1, 8)) {
            return BAD;
        }
        for (int f = 0; f <= 99; f++) {
            int p = pulls(c, f);
            if (p >= 0 && p <= n) {
                return f;
            }
        }
        return NONE;
    }

    private TreeSet<Integer> must(int c) {
        TreeSet<Integer> all = new TreeSet<>();
        for (int b : now.knots.get(c).bars) {
            if (now.knots.get(b).tied) {
                all.add(b);
                all.addAll(must(b));
            }
        }
        return all;
    }

    private static int bits(TreeSet<Integer> set) {
        return set.stream().mapToInt(c -> 1 << c).sum();
    }

    int needs(int c) {
        if (noClause(c)) {
            return BAD;
        }
        return now.knots.get(c).tied ? bits(must(c)) : 0;
    }

    private int rowTo(int c) {
        if (!now.knots.get(c).tied) {
            return 0;
        }
        int best = 0;
        for (int b : now.knots.get(c).bars) {
            best = Math.max(best, rowTo(b));
        }
        return best + 1;
    }

    int deep() {
        int best = 0;
        for (int c = 0; c < now.knots.size(); c++) {
            best = Math.max(best, rowTo(c));
        }
        return best;
    }

    int frees(int p, int what) {
        if (!in(p, 0, 3) || !in(what, 0, 1)) {
            return BAD;
        }
        TreeSet<Integer> all = new TreeSet<>();
        for (int c = 0; c < now.knots.size(); c++) {
            if (now.knots.get(c).party == p && now.knots.get(c).tied) {
                all.add(c);
                all.addAll(must(c));
            }
        }
        return what == 0 ? all.size() : bits(all);
    }

    /** Walks through every order, rising; tells how many, how many with a ahead of b, and the first. */
    private void walk(World w, List<Integer> way, int[] sums, int a, int b, List<Integer> first) {
        if (w.tiedSet() == 0) {
            if (sums[0] == 0) {
                first.addAll(way);
            }
            sums[0]++;
            sums[1] += way.indexOf(a) < way.indexOf(b) ? 1 : 0;
            return;
        }
        for (int c = 0; c < w.knots.size(); c++) {
            if (w.free(c)) {
                w.knots.get(c).tied = false;
                way.add(c);
                walk(w, way, sums, a, b, first);
                way.remove(way.size() - 1);
                w.knots.get(c).tied = true;
            }
        }
    }

    int orders(int k) {
        if (k < -1) {
            return BAD;
        }
        int[] sums = {0, 0};
        List<Integer> first = new ArrayList<>();
        walk(now.copy(), new ArrayList<>(), sums, 0, 0, first);
        if (k == -1) {
            return sums[0];
        }
        return k < first.size() ? first.get(k) : NONE;
    }

    int ahead(int a, int b, int what) {
        if (noClause(a) || noClause(b) || a == b || !in(what, 0, 1)) {
            return BAD;
        }
        if (!now.knots.get(a).tied || !now.knots.get(b).tied) {
            return NOT;
        }
        int[] sums = {0, 0};
        walk(now.copy(), new ArrayList<>(), sums, a, b, new ArrayList<>());
        return what == 0 ? sums[1] : sums[0];
    }

    private boolean wins(World w, int lose) {
        if (w.tiedSet() == 0) {
            return lose == 1;
        }
        return winningMove(w, lose) >= 0;
    }

    private int winningMove(World w, int lose) {
        for (int c = 0; c < w.knots.size(); c++) {
            if (w.free(c)) {
                w.knots.get(c).tied = false;
                boolean good = !wins(w, lose);
                w.knots.get(c).tied = true;
                if (good) {
                    return c;
                }
            }
        }
        return NONE;
    }

    int game(int lose, int what) {
        if (!in(lose, 0, 1) || !in(what, 0, 1)) {
            return BAD;
        }
        return what == 0 ? (wins(now.copy(), lose) ? 1 : 0) : winningMove(now.copy(), lose);
    }

    int cuts(int c, int f, int what) {
        if (noClause(c) || !in(f, 0, 99) || !in(what, 0, 1)) {
            return BAD;
        }
        int best = NONE;
        for (int set = 0; set < 1 << now.knots.size(); set++) {
            World w = now.copy();
            boolean all = (set & ~now.tiedSet()) == 0 && (set >> c & 1) == 0;
            for (int k = 0; k < w.knots.size(); k++) {
                w.knots.get(k).tied &= (set >> k & 1) == 0;
            }
            boolean fewer = best == NONE || Integer.bitCount(set) < Integer.bitCount(best);
            if (all && fewer && (w.pull(f) >> c & 1) == 1) {
                best = set;
            }
        }
        return best == NONE ? NONE : what == 0 ? Integer.bitCount(best) : best;
    }

    int weather(int c, int f) {
        if (noClause(c) || !in(f, 0, 99)) {
            return BAD;
        }
        for (int d = 0; d <= 60; d++) {
            if (now.knots.get(c).firm(now.wet, now.day + d) <= f) {
                return d;
            }
        }
        return NONE;
    }

    int rotten(int clause, int f, int c, int what) {
        if (noClause(clause) || !in(f, 0, 99) || !in(c, 0, 10) || !in(what, 0, 1)) {
            return BAD;
        }
        int n = now.knots.size();
        BigInteger above = BigInteger.ZERO;
        for (int set = 0; set < 1 << n; set++) {
            World w = now.copy();
            BigInteger odds = BigInteger.ONE;
            for (int k = 0; k < n; k++) {
                boolean isRotten = (set >> k & 1) == 1;
                odds = odds.multiply(BigInteger.valueOf(isRotten ? c : 10 - c));
                w.knots.get(k).tied &= !isRotten;
            }
            w.pull(f);
            above = w.knots.get(clause).tied ? above : above.add(odds);
        }
        BigInteger below = BigInteger.TEN.pow(n);
        BigInteger shared = above.gcd(below);
        return (what == 0 ? above : below).divide(shared).intValueExact();
    }

    private static List<World> copies(List<World> all) {
        List<World> out = new ArrayList<>();
        for (World w : all) {
            out.add(w.copy());
        }
        return out;
    }

    int image() {
        kept = now.copy();
        keptPast = copies(past);
        return 1;
    }

    int restore() {
        if (kept == null) {
            return NONE;
        }
        now = kept.copy();
        past = copies(keptPast);
        return 1;
    }

    private static int laneOf(Object row) {
        return row instanceof byte[] ? 0 : row instanceof short[] ? 1 : row instanceof int[] ? 2 : 3;
    }

    private int fault(int sheet, int lane, long i, long n) {
        if (!in(sheet, 0, 3) || !in(lane, 0, 3)) {
            return BAD;
        }
        if (sheets[sheet] == null) {
            return NULL;
        }
        if (laneOf(sheets[sheet]) != lane) {
            return CAST;
        }
        return i < 0 || i + n > Array.getLength(sheets[sheet]) ? INDEX : 0;
    }

    private long get(int sheet, int i) {
        return Array.getLong(sheets[sheet], i);
    }

    private void put(int sheet, int i, long v) {
        Object row = sheets[sheet];
        if (row instanceof byte[] b) {
            b[i] = (byte) v;
        } else if (row instanceof short[] s) {
            s[i] = (short) v;
        } else if (row instanceof int[] n) {
            n[i] = (int) v;
        } else if (row instanceof long[] l) {
            l[i] = v;
        }
    }

    int felt(int c, int sheet, int lane, int i, int n, int what) {
        if (noClause(c) || !in(n, 1, 6) || !in(what, 0, 1)) {
            return BAD;
        }
        int fault = fault(sheet, lane, i, 2L * n);
        if (fault != 0) {
            return fault;
        }
        for (int k = 0; k < n; k++) {
            if (!in(get(sheet, i + 2 * k), 0, 99)) {
                return NOT;
            }
        }
        int set = 0;
        for (int v = what; v <= (what == 0 ? 4 : 20); v++) {
            World w = now.copy();
            if (what == 0) {
                w.knots.get(c).kind = v;
            } else {
                w.knots.get(c).holds = v;
            }
            boolean so = true;
            for (int k = 0; k < n; k++) {
                so &= Integer.bitCount(w.pull((int) get(sheet, i + 2 * k))) == get(sheet, i + 2 * k + 1);
            }
            set |= so ? 1 << v : 0;
        }
        return set;
    }

    int film(int f, int n, int sheet, int lane, int i) {
        if (!in(f, 0, 99) || !in(n, 1, 24)) {
            return BAD;
        }
        int fault = fault(sheet, lane, i, n);
        if (fault != 0) {
            return fault;
        }
        World w = now.copy();
        for (int k = 0; k < n; k++) {
            w.pull(f);
            put(sheet, i + k, Integer.bitCount(w.tiedSet()));
        }
        return n;
    }

    int sheet(int sheet, int lane, int n) {
        if (!in(sheet, 0, 3) || !in(lane, 0, 3) || n > 24) {
            return BAD;
        }
        if (n < 0) {
            return SIZE;
        }
        Object[] rows = {new byte[n], new short[n], new int[n], new long[n]};
        sheets[sheet] = rows[lane];
        return n;
    }

    int drop(int sheet) {
        if (!in(sheet, 0, 3)) {
            return BAD;
        }
        if (sheets[sheet] == null) {
            return NULL;
        }
        int n = Array.getLength(sheets[sheet]);
        sheets[sheet] = null;
        return n;
    }

    int item(int sheet, int lane, int i, long v) {
        int fault = fault(sheet, lane, i, 1);
        if (fault != 0) {
            return fault;
        }
        put(sheet, i, v);
        return 1;
    }

    int copy(int from, int i, int to, int j, int n) {
        if (!in(from, 0, 3) || !in(to, 0, 3)) {
            return BAD;
        }
        if (sheets[from] == null || sheets[to] == null) {
            return NULL;
        }
        if (laneOf(sheets[from]) != laneOf(sheets[to])) {
            return CAST;
        }
        try {
            System.arraycopy(sheets[from], i, sheets[to], j, n);
        } catch (IndexOutOfBoundsException e) {
            return INDEX;
        }
        return n;
    }
}
