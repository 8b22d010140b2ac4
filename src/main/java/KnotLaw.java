/** Agreements as rope: clauses that bar one another, what undoes them, and what can be foretold of it. */
public final class KnotLaw {
    public static final int BAD = -1, NOT = -2, FULL = -3, NONE = -4, NULL = -11, CAST = -12, INDEX = -13, SIZE = -14;

    private static final int MOST_CLAUSES = 8;
    private static final int MOST_PARTIES = 4;
    private static final int MOST_HOLDS = 20;
    private static final int MOST_FORCE = 99;
    private static final int LAST_DAY = 9999;
    private static final int DAYS_FORETOLD = 60;
    private static final int TENTHS = 10;

    private static final int KINDS = 5;
    private static final int HITCH = 0;
    private static final int SPLICE = 1;
    private static final int SLIP = 2;
    private static final int OATH = 3;
    private static final int GRANNY = 4;

    private final Rope rope;
    private final Rope kept;
    private final Foretold foretold;
    private final Reader reader;
    private final Sheets sheets;
    private boolean isKept;

    public KnotLaw() {
        rope = new Rope();
        kept = new Rope();
        foretold = new Foretold();
        reader = new Reader();
        sheets = new Sheets();
        isKept = false;
    }

    // ---- 1 clauses

    public int clause(int kind, int holds, int barred, int party) {
        if (!isWithin(kind, 0, KINDS - 1) || !isWithin(holds, 1, MOST_HOLDS)) {
            return BAD;
        }
        if (!isWithin(barred, 0, (1 << rope.told.size) - 1) || !isParty(party)) {
            return BAD;
        }
        if (rope.told.size >= MOST_CLAUSES) {
            return FULL;
        }
        return rope.addClause(kind, holds, barred, party);
    }

    public int of(int clause, int what) {
        if (!isClause(clause)) {
            return BAD;
        }
        switch (what) {
            case 0: return rope.told.kinds[clause];
            case 1: return rope.told.holds[clause];
            case 2: return rope.told.barred[clause];
            case 3: return rope.told.parties[clause];
            case 4: return has(rope.tied, clause) ? 1 : 0;
            case 5: return has(rope.freeAmong(rope.tied), clause) ? 1 : 0;
            case 6: return rope.firmOf(clause);
            default: return BAD;
        }
    }

    public int party(int party, int what) {
        if (!isParty(party) || !isWithin(what, 0, 1)) {
            return BAD;
        }
        int owed = rope.told.owedBy(party);
        if (what == 0) {
            return owed;
        }
        return (owed & rope.tied) != 0 ? 1 : 0;
    }

    public int owe(int clause, int party) {
        if (!isClause(clause) || !isParty(party)) {
            return BAD;
        }
        int before = rope.told.parties[clause];
        rope.told.parties[clause] = party;
        return before;
    }

    public int type(int letter) {
        if (!isWithin(letter, 32, 126)) {
            return BAD;
        }
        return reader.addLetter(letter);
    }

    public int agreement() {
        int answer = reader.readTape();
        if (answer > 0) {
            rope.startWith(reader.told);
        }
        return answer;
    }

    public int count(int what) {
        switch (what) {
            case 0: return rope.told.size;
            case 1: return rope.day;
            case 2: return rope.wet;
            case 3: return rope.tied;
            case 4: return rope.freeAmong(rope.tied);
            case 5: return rope.boundParties();
            case 6: return rope.wars;
            case 7: return rope.past.size;
            default: return BAD;
        }
    }

    // ---- what is done

    public int pull(int f) {
        if (!isForce(f)) {
            return BAD;
        }
        rope.remember();
        return rope.undoBy(f);
    }

    public int cut(int clause) {
        if (!isClause(clause)) {
            return BAD;
        }
        if (!has(rope.tied, clause)) {
            return NOT;
        }
        rope.remember();
        rope.tied &= ~(1 << clause);
        rope.wars++;
        return rope.tied;
    }

    public int tie(int clause) {
        if (!isClause(clause)) {
            return BAD;
        }
        if (has(rope.tied, clause)) {
            return NOT;
        }
        rope.remember();
        rope.tied |= 1 << clause;
        return rope.tied;
    }

    public int wet(int is) {
        if (!isWithin(is, 0, 1)) {
            return BAD;
        }
        if (rope.wet == is) {
            return NOT;
        }
        rope.remember();
        rope.wet = is;
        return rope.firmTogether();
    }

    public int days(int n) {
        if (!isWithin(n, 1, 99)) {
            return BAD;
        }
        if (rope.day + n > LAST_DAY) {
            return FULL;
        }
        rope.remember();
        rope.day += n;
        return rope.day;
    }

    public int drift(int n) {
        if (!isWithin(n, 1, 40)) {
            return BAD;
        }
        if (rope.day + n > LAST_DAY) {
            return FULL;
        }
        for (int k = 0; k < n; k++) {
            rope.remember();
            rope.driftOneDay();
        }
        return rope.tied;
    }

    public int undo() {
        return rope.takeBack() ? rope.past.size : NONE;
    }

    public int seed(int v) {
        if (v < 0) {
            return BAD;
        }
        int before = rope.drawn;
        rope.drawn = v;
        return before;
    }

    // ---- 2 foretold

    public int falls(int f) {
        if (!isForce(f)) {
            return BAD;
        }
        rope.weigh();
        return rope.fallsAmong(rope.tied, f);
    }

    public int pulls(int clause, int f) {
        if (!isClause(clause) || !isForce(f)) {
            return BAD;
        }
        if (!has(rope.tied, clause)) {
            return 0;
        }
        return rope.firmestUpTo(clause) <= f ? foretold.depthOf(rope, clause) : NONE;
    }

    public int force(int clause, int n) {
        if (!isClause(clause) || !isWithin(n, 1, 8)) {
            return BAD;
        }
        if (!has(rope.tied, clause)) {
            return 0;
        }
        int least = rope.firmestUpTo(clause);
        return least <= MOST_FORCE && foretold.depthOf(rope, clause) <= n ? least : NONE;
    }

    public int needs(int clause) {
        if (!isClause(clause)) {
            return BAD;
        }
        return rope.neededFor(1 << clause) & ~(1 << clause);
    }

    public int deep() {
        return foretold.deepest(rope);
    }

    public int frees(int party, int what) {
        if (!isParty(party) || !isWithin(what, 0, 1)) {
            return BAD;
        }
        int set = rope.neededFor(rope.told.owedBy(party));
        return what == 0 ? Integer.bitCount(set) : set;
    }

    public int orders(int k) {
        if (k < -1) {
            return BAD;
        }
        if (k == -1) {
            return foretold.countOrders(rope);
        }
        // What bars a clause has a lesser number, so the tied ones by rising numbers are the first order.
        return nthOf(rope.tied, k);
    }

    public int ahead(int clause, int other, int what) {
        if (!isClause(clause) || !isClause(other) || clause == other || !isWithin(what, 0, 1)) {
            return BAD;
        }
        if (!has(rope.tied, clause) || !has(rope.tied, other)) {
            return NOT;
        }
        return what == 0 ? foretold.countOrdersWith(rope, clause, other) : foretold.countOrders(rope);
    }

    public int game(int lose, int what) {
        if (!isWithin(lose, 0, 1) || !isWithin(what, 0, 1)) {
            return BAD;
        }
        // Each turn undoes just one, so how many are tied decides alone, whichever is undone.
        boolean wins = (Integer.bitCount(rope.tied) + lose) % 2 == 1;
        if (what == 0) {
            return wins ? 1 : 0;
        }
        return wins ? nthOf(rope.freeAmong(rope.tied), 0) : NONE;
    }

    public int cuts(int clause, int f, int what) {
        if (!isClause(clause) || !isForce(f) || !isWithin(what, 0, 1)) {
            return BAD;
        }
        if (!has(rope.tied, clause) || rope.firmOf(clause) > f) {
            return NONE;
        }
        // One pull undoes only what is free ahead of it, so just what bars it now has to be cut.
        int set = rope.told.barred[clause] & rope.tied;
        return what == 0 ? Integer.bitCount(set) : set;
    }

    public int weather(int clause, int f) {
        if (!isClause(clause) || !isForce(f)) {
            return BAD;
        }
        for (int n = 0; n <= DAYS_FORETOLD; n++) {
            if (rope.firmOnDay(clause, rope.day + n) <= f) {
                return n;
            }
        }
        return NONE;
    }

    public int rotten(int clause, int f, int c, int what) {
        if (!isClause(clause) || !isForce(f) || !isWithin(c, 0, TENTHS) || !isWithin(what, 0, 1)) {
            return BAD;
        }
        if (!has(rope.tied, clause)) {
            return 1;
        }
        int above = c;
        int below = TENTHS;
        if (rope.firmOf(clause) <= f) {
            // Sound itself, it falls only if all that bar it are rotten: what bars those is of no account.
            int bars = Integer.bitCount(rope.told.barred[clause] & rope.tied);
            int all = powerOf(TENTHS, bars);
            above = c * all + (TENTHS - c) * powerOf(c, bars);
            below = TENTHS * all;
        }
        return what == 0 ? lowestPartOf(above, below) : lowestPartOf(below, above);
    }

    public int image() {
        kept.become(rope);
        isKept = true;
        return 1;
    }

    public int restore() {
        if (!isKept) {
            return NONE;
        }
        rope.become(kept);
        return 1;
    }

    // ---- 3 sheets

    public int felt(int clause, int sheet, int lane, int i, int n, int what) {
        if (!isClause(clause) || !isSheet(sheet) || !isLane(lane)) {
            return BAD;
        }
        if (!isWithin(n, 1, 6) || !isWithin(what, 0, 1)) {
            return BAD;
        }
        int fault = sheets.faultOf(sheet, lane, i, 2 * n);
        if (fault != 0) {
            return fault;
        }
        if (!areForces(sheet, i, n)) {
            return NOT;
        }
        return what == 0 ? kindsFelt(clause, sheet, i, n) : holdsFelt(clause, sheet, i, n);
    }

    public int film(int f, int n, int sheet, int lane, int i) {
        if (!isForce(f) || !isWithin(n, 1, Sheets.LONGEST) || !isSheet(sheet) || !isLane(lane)) {
            return BAD;
        }
        int fault = sheets.faultOf(sheet, lane, i, n);
        if (fault != 0) {
            return fault;
        }
        rope.weigh();
        int left = rope.tied;
        for (int k = 0; k < n; k++) {
            left &= ~rope.fallsAmong(left, f);
            sheets.put(sheet, i + k, Integer.bitCount(left));
        }
        return n;
    }

    public int sheet(int sheet, int lane, int n) {
        if (!isSheet(sheet) || !isLane(lane) || n > Sheets.LONGEST) {
            return BAD;
        }
        if (n < 0) {
            return SIZE;
        }
        sheets.lay(sheet, lane, n);
        return n;
    }

    public int drop(int sheet) {
        if (!isSheet(sheet)) {
            return BAD;
        }
        return sheets.takeAway(sheet);
    }

    public int item(int sheet, int lane, int i, long v) {
        if (!isSheet(sheet) || !isLane(lane)) {
            return BAD;
        }
        int fault = sheets.faultOf(sheet, lane, i, 1);
        if (fault != 0) {
            return fault;
        }
        sheets.put(sheet, i, v);
        return 1;
    }

    public int copy(int from, int i, int to, int j, int n) {
        if (!isSheet(from) || !isSheet(to)) {
            return BAD;
        }
        return sheets.carry(from, i, to, j, n);
    }

    // ---- what calls ask of their numbers

    private static boolean isWithin(int v, int least, int most) {
        return v >= least && v <= most;
    }

    private static boolean isForce(int f) {
        return isWithin(f, 0, MOST_FORCE);
    }

    private static boolean isParty(int party) {
        return isWithin(party, 0, MOST_PARTIES - 1);
    }

    private static boolean isSheet(int sheet) {
        return isWithin(sheet, 0, Sheets.MOST - 1);
    }

    private static boolean isLane(int lane) {
        return isWithin(lane, 0, Sheets.LANES - 1);
    }

    private boolean isClause(int clause) {
        return clause >= 0 && clause < rope.told.size && clause < MOST_CLAUSES;
    }

    // ---- sets and fractions

    private static boolean has(int set, int clause) {
        return (set >> clause & 1) != 0;
    }

    /** The k-th least number in a set, or NONE. */
    private static int nthOf(int set, int k) {
        int left = k;
        for (int c = 0; c < MOST_CLAUSES; c++) {
            if (has(set, c)) {
                if (left == 0) {
                    return c;
                }
                left--;
            }
        }
        return NONE;
    }

    private static int powerOf(int base, int times) {
        int product = 1;
        for (int k = 0; k < times; k++) {
            product *= base;
        }
        return product;
    }

    /** One part of a fraction in lowest terms; its below is a power of ten up to the eighth: only 2 and 5 divide it. */
    private static int lowestPartOf(int part, int other) {
        int p = part;
        int o = other;
        for (int k = 0; k < MOST_CLAUSES; k++) {
            if (p % 2 == 0 && o % 2 == 0) {
                p /= 2;
                o /= 2;
            }
            if (p % 5 == 0 && o % 5 == 0) {
                p /= 5;
                o /= 5;
            }
        }
        return p;
    }

    // ---- what a row of pulls tells

    private boolean areForces(int sheet, int i, int n) {
        for (int k = 0; k < n; k++) {
            long f = sheets.get(sheet, i + 2 * k);
            if (f < 0 || f > MOST_FORCE) {
                return false;
            }
        }
        return true;
    }

    private int kindsFelt(int clause, int sheet, int i, int n) {
        int set = 0;
        rope.weigh();
        for (int kind = 0; kind < KINDS; kind++) {
            rope.firms[clause] = rope.firmBy(kind, rope.told.holds[clause], rope.day);
            if (isAsTold(sheet, i, n)) {
                set |= 1 << kind;
            }
        }
        return set;
    }

    private int holdsFelt(int clause, int sheet, int i, int n) {
        int set = 0;
        rope.weigh();
        for (int holds = 1; holds <= MOST_HOLDS; holds++) {
            rope.firms[clause] = rope.firmBy(rope.told.kinds[clause], holds, rope.day);
            if (isAsTold(sheet, i, n)) {
                set |= 1 << holds;
            }
        }
        return set;
    }

    /** Whether the pulls of a row would undo as many as it tells, all being as firm as last weighed. */
    private boolean isAsTold(int sheet, int i, int n) {
        int left = rope.tied;
        for (int k = 0; k < n; k++) {
            int falling = rope.fallsAmong(left, (int) sheets.get(sheet, i + 2 * k));
            if (sheets.get(sheet, i + 2 * k + 1) != Integer.bitCount(falling)) {
                return false;
            }
            left &= ~falling;
        }
        return true;
    }

    /** Clauses as they were told, apart from what became of them. */
    private static final class Clauses {
        final int[] kinds = new int[MOST_CLAUSES];
        final int[] holds = new int[MOST_CLAUSES];
        final int[] barred = new int[MOST_CLAUSES];
        final int[] parties = new int[MOST_CLAUSES];
        int size = 0;

        /** Its number. */
        int add(int kind, int hold, int bars, int party) {
            int number = size;
            if (number < 0 || number >= MOST_CLAUSES) {
                return FULL;
            }
            kinds[number] = kind;
            holds[number] = hold;
            barred[number] = bars;
            parties[number] = party;
            size = number + 1;
            return number;
        }

        int owedBy(int party) {
            int set = 0;
            for (int c = 0; c < size && c < MOST_CLAUSES; c++) {
                if (parties[c] == party) {
                    set |= 1 << c;
                }
            }
            return set;
        }

        void become(Clauses other) {
            System.arraycopy(other.kinds, 0, kinds, 0, MOST_CLAUSES);
            System.arraycopy(other.holds, 0, holds, 0, MOST_CLAUSES);
            System.arraycopy(other.barred, 0, barred, 0, MOST_CLAUSES);
            System.arraycopy(other.parties, 0, parties, 0, MOST_CLAUSES);
            size = other.size;
        }
    }

    /** What was ahead of the latest acts, the oldest first: of each one tied, wars, wet, day, drawn. */
    private static final class Past {
        static final int KNOWN = 8;
        static final int WIDTH = 5;
        final int[] numbers = new int[KNOWN * WIDTH];
        int size = 0;

        /** Where the numbers of one act more begin; the oldest is lost, if too many are known. */
        int makeRoom() {
            if (size >= KNOWN) {
                System.arraycopy(numbers, WIDTH, numbers, 0, (KNOWN - 1) * WIDTH);
                size = KNOWN - 1;
            }
            size++;
            return (size - 1) * WIDTH;
        }

        void become(Past other) {
            System.arraycopy(other.numbers, 0, numbers, 0, KNOWN * WIDTH);
            size = other.size;
        }
    }

    /** The clauses and all that happens to them. */
    private static final class Rope {
        final Clauses told = new Clauses();
        final Past past = new Past();
        /** How firm each was when last weighed; made once, as many pulls are foretold in one call. */
        final int[] firms = new int[MOST_CLAUSES];
        int tied = 0;
        int wars = 0;
        int wet = 0;
        int day = 0;
        int drawn = 1;

        int addClause(int kind, int holds, int barred, int party) {
            int number = told.add(kind, holds, barred, party);
            if (number >= 0) {
                tied |= 1 << number;
                past.size = 0;
            }
            return number;
        }

        void startWith(Clauses others) {
            told.become(others);
            past.size = 0;
            tied = (1 << told.size) - 1;
            wars = 0;
            wet = 0;
            day = 0;
        }

        void become(Rope other) {
            told.become(other.told);
            past.become(other.past);
            tied = other.tied;
            wars = other.wars;
            wet = other.wet;
            day = other.day;
            drawn = other.drawn;
        }

        int firmBy(int kind, int holds, int onDay) {
            int hitch = wet == 1 ? 2 * holds : holds;
            switch (kind) {
                case SPLICE: return hitch + 10;
                case SLIP: return hitch / 2;
                case OATH: return hitch + 10 + onDay / 10;
                case GRANNY: return onDay % 7 == 0 ? 0 : hitch / 2;
                case HITCH:
                default: return hitch;
            }
        }

        int firmOnDay(int clause, int onDay) {
            return firmBy(told.kinds[clause], told.holds[clause], onDay);
        }

        int firmOf(int clause) {
            return firmOnDay(clause, day);
        }

        int firmTogether() {
            int sum = 0;
            for (int c = 0; c < MOST_CLAUSES; c++) {
                if (has(tied, c)) {
                    sum += firmOf(c);
                }
            }
            return sum;
        }

        void weigh() {
            for (int c = 0; c < MOST_CLAUSES; c++) {
                firms[c] = firmOf(c);
            }
        }

        /** Which are free, if just those of a set are tied. */
        int freeAmong(int set) {
            int free = 0;
            for (int c = 0; c < MOST_CLAUSES; c++) {
                if (has(set, c) && (told.barred[c] & set) == 0) {
                    free |= 1 << c;
                }
            }
            return free;
        }

        /** Which a pull undoes, if just those of a set are tied, as firm as last weighed. */
        int fallsAmong(int set, int f) {
            int free = freeAmong(set);
            int falling = 0;
            for (int c = 0; c < MOST_CLAUSES; c++) {
                if (has(free, c) && firms[c] <= f) {
                    falling |= 1 << c;
                }
            }
            return falling;
        }

        int boundParties() {
            int set = 0;
            for (int p = 0; p < MOST_PARTIES; p++) {
                if ((told.owedBy(p) & tied) != 0) {
                    set |= 1 << p;
                }
            }
            return set;
        }

        /** What is tied of a set, and all that is tied and has to be undone ahead of any of these. */
        int neededFor(int set) {
            // One that is undone already waits for nothing, even if what bars it is tied again.
            int all = set & tied;
            // What bars a clause has a lesser number, so one way down meets every bar.
            for (int c = MOST_CLAUSES - 1; c >= 0; c--) {
                if (has(all, c)) {
                    all |= told.barred[c] & tied;
                }
            }
            return all;
        }

        /** How firm the firmest is that has to be undone until a clause is undone, itself too. */
        int firmestUpTo(int clause) {
            int all = neededFor(1 << clause);
            int most = 0;
            for (int c = 0; c < MOST_CLAUSES; c++) {
                if (has(all, c)) {
                    most = Math.max(most, firmOf(c));
                }
            }
            return most;
        }

        int undoBy(int f) {
            weigh();
            int falling = fallsAmong(tied, f);
            tied &= ~falling;
            return falling;
        }

        void driftOneDay() {
            drawn = drawn * 1103515245 + 12345 & 0x7fffffff;
            wet = drawn / 65536 % 3 == 0 ? 1 : 0;
            undoBy(drawn / 128 % 30);
            day++;
        }

        void remember() {
            int at = past.makeRoom();
            if (at < 0 || at + Past.WIDTH > past.numbers.length) {
                return;
            }
            past.numbers[at] = tied;
            past.numbers[at + 1] = wars;
            past.numbers[at + 2] = wet;
            past.numbers[at + 3] = day;
            past.numbers[at + 4] = drawn;
        }

        boolean takeBack() {
            if (past.size <= 0 || past.size > Past.KNOWN) {
                return false;
            }
            past.size--;
            int at = past.size * Past.WIDTH;
            tied = past.numbers[at];
            wars = past.numbers[at + 1];
            wet = past.numbers[at + 2];
            day = past.numbers[at + 3];
            drawn = past.numbers[at + 4];
            return true;
        }
    }

    /** What the bars among the tied clauses tell; its rows are made once and used by every call. */
    private static final class Foretold {
        final int[] depths = new int[MOST_CLAUSES];
        final int[] bars = new int[MOST_CLAUSES];
        final int[] ways = new int[1 << MOST_CLAUSES];

        /** Of how many tied clauses, each barred by the one ahead, the longest row is that ends with this one. */
        int depthOf(Rope rope, int clause) {
            fillDepths(rope);
            return depths[clause];
        }

        int deepest(Rope rope) {
            fillDepths(rope);
            int most = 0;
            for (int c = 0; c < MOST_CLAUSES; c++) {
                most = Math.max(most, depths[c]);
            }
            return most;
        }

        private void fillDepths(Rope rope) {
            for (int c = 0; c < MOST_CLAUSES; c++) {
                depths[c] = has(rope.tied, c) ? 1 + deepestAmong(rope.told.barred[c] & rope.tied) : 0;
            }
        }

        private int deepestAmong(int set) {
            int most = 0;
            for (int c = 0; c < MOST_CLAUSES; c++) {
                if (has(set, c)) {
                    most = Math.max(most, depths[c]);
                }
            }
            return most;
        }

        int countOrders(Rope rope) {
            fillBars(rope);
            return countWays(rope.tied);
        }

        /** In how many orders one clause is undone ahead of another: as many as if it barred that one. */
        int countOrdersWith(Rope rope, int sooner, int later) {
            fillBars(rope);
            bars[later] |= 1 << sooner;
            return countWays(rope.tied);
        }

        private void fillBars(Rope rope) {
            for (int c = 0; c < MOST_CLAUSES; c++) {
                bars[c] = rope.told.barred[c] & rope.tied;
            }
        }

        private int countWays(int tied) {
            int whole = tied & ways.length - 1;
            ways[0] = 1;
            for (int set = 1; set <= whole; set++) {
                if ((set & ~whole) == 0) {
                    ways[set] = waysTo(set);
                }
            }
            return ways[whole];
        }

        /** In how many orders just those of a set are undone, by which of them may come last. */
        private int waysTo(int set) {
            int sum = 0;
            for (int c = 0; c < MOST_CLAUSES; c++) {
                if (has(set, c) && (bars[c] & ~set) == 0) {
                    sum += ways[set & ~(1 << c)];
                }
            }
            return sum;
        }
    }

    /** The tape and the agreement that it may be. */
    private static final class Reader {
        static final int LONGEST = 100;
        static final int FAULT = -20;
        static final int END = -1;
        final int[] letters = new int[LONGEST];
        /** Apart from the rope, as a fault must leave all else as it is. */
        final Clauses told = new Clauses();
        int size = 0;
        int at = 0;

        int addLetter(int letter) {
            if (size < 0 || size >= LONGEST) {
                return FULL;
            }
            letters[size] = letter;
            size++;
            return size;
        }

        /** How many clauses were told, or a fault; the tape is empty then. */
        int readTape() {
            told.size = 0;
            at = 0;
            boolean isAgreement = readClauses();
            size = 0;
            return isAgreement ? told.size : FAULT - at;
        }

        /** If not, at is the place of the fault. */
        private boolean readClauses() {
            for (int n = 1; n <= MOST_CLAUSES; n++) {
                if (!readClause()) {
                    return false;
                }
                int letter = nextLetter();
                if (letter == END) {
                    return true;
                }
                if (letter != ',' || n == MOST_CLAUSES) {
                    return false;
                }
                at++;
            }
            return false;
        }

        private boolean readClause() {
            int kind = kindOf(nextLetter());
            if (kind < 0) {
                return false;
            }
            at++;
            int holds = readHolds();
            if (holds < 0) {
                return false;
            }
            int barred = 0;
            if (nextLetter() == '/') {
                at++;
                barred = readBarred();
                if (barred == 0) {
                    return false;
                }
            }
            int party = 0;
            if (nextLetter() == '@') {
                at++;
                party = nextLetter() - '0';
                if (!isParty(party)) {
                    return false;
                }
                at++;
            }
            return told.add(kind, holds, barred, party) >= 0;
        }

        private int readHolds() {
            if (!isDigit(nextLetter())) {
                return BAD;
            }
            int start = at;
            int value = letterAt(at) - '0';
            at++;
            if (isDigit(letterAt(at))) {
                value = 10 * value + letterAt(at) - '0';
                at++;
            }
            if (!isWithin(value, 1, MOST_HOLDS)) {
                at = start;
                return BAD;
            }
            return value;
        }

        /** The set, empty if the first letter is no clause told ahead; what does not rise is left unread. */
        private int readBarred() {
            int set = 0;
            int least = 0;
            for (int k = 0; k < MOST_CLAUSES; k++) {
                int number = nextLetter() - '0';
                if (number < least || number >= told.size) {
                    return set;
                }
                set |= 1 << number;
                least = number + 1;
                at++;
            }
            return set;
        }

        /** The letter behind blanks, which at is the place of then. */
        private int nextLetter() {
            while (at < size && letterAt(at) == ' ') {
                at++;
            }
            return letterAt(at);
        }

        private int letterAt(int place) {
            return place >= 0 && place < size && place < LONGEST ? letters[place] : END;
        }

        private static boolean isDigit(int letter) {
            return letter >= '0' && letter <= '9';
        }

        private static int kindOf(int letter) {
            switch (letter) {
                case 'h': return HITCH;
                case 's': return SPLICE;
                case 'l': return SLIP;
                case 'o': return OATH;
                case 'g': return GRANNY;
                default: return BAD;
            }
        }
    }

    /** Rows of four lanes, held as longs, each item as its lane would hold it. */
    private static final class Sheets {
        static final int MOST = 4;
        static final int LANES = 4;
        static final int LONGEST = 24;
        static final int NOTHING = -1;
        final int[] lanes = {NOTHING, NOTHING, NOTHING, NOTHING};
        final int[] sizes = new int[MOST];
        final long[] items = new long[MOST * LONGEST];

        void lay(int sheet, int lane, int n) {
            lanes[sheet] = lane;
            sizes[sheet] = n;
            for (int i = 0; i < n; i++) {
                put(sheet, i, 0L);
            }
        }

        int takeAway(int sheet) {
            if (lanes[sheet] == NOTHING) {
                return NULL;
            }
            lanes[sheet] = NOTHING;
            return sizes[sheet];
        }

        /** What is wrong with n items from i on of a sheet, taken as a row of a lane; 0: nothing. */
        int faultOf(int sheet, int lane, int i, int n) {
            if (lanes[sheet] == NOTHING) {
                return NULL;
            }
            if (lanes[sheet] != lane) {
                return CAST;
            }
            return isInside(sheet, i, n) ? 0 : INDEX;
        }

        private boolean isInside(int sheet, int i, int n) {
            return i >= 0 && n >= 0 && i <= sizes[sheet] - n;
        }

        long get(int sheet, int i) {
            return isInside(sheet, i, 1) ? items[sheet * LONGEST + i] : 0L;
        }

        void put(int sheet, int i, long v) {
            if (isInside(sheet, i, 1)) {
                items[sheet * LONGEST + i] = lowestBits(lanes[sheet], v);
            }
        }

        private static long lowestBits(int lane, long v) {
            switch (lane) {
                case 0: return (byte) v;
                case 1: return (short) v;
                case 2: return (int) v;
                default: return v;
            }
        }

        int carry(int from, int i, int to, int j, int n) {
            if (lanes[from] == NOTHING || lanes[to] == NOTHING) {
                return NULL;
            }
            if (lanes[from] != lanes[to]) {
                return CAST;
            }
            if (!isInside(from, i, n) || !isInside(to, j, n)) {
                return INDEX;
            }
            System.arraycopy(items, from * LONGEST + i, items, to * LONGEST + j, n);
            return n;
        }
    }
}
