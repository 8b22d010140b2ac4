import java.util.ArrayDeque;
import java.util.Random;

/** Random runs of calls, the same ones each time, on KnotLaw and on the Model: all answers are alike, none throws. */
public final class RandomTest {
    private static final int RUNS = 1500;
    private static final int CALLS = 512;
    private static final int[] WILD = {-1, -2, Integer.MIN_VALUE, Integer.MAX_VALUE, Integer.MAX_VALUE - 1, 4, 8, 9,
        24, 25, 31, 32, 33, 99, 100, 255, 256, -100, 7, 1 << 30};

    private final Random random;
    private final KnotLaw x = new KnotLaw();
    private final Model m = new Model();
    private final ArrayDeque<Integer> letters = new ArrayDeque<>();
    private final int wildness;
    private String call;
    private int got;
    private int want;

    private RandomTest(long seed) {
        random = new Random(seed);
        wildness = random.nextInt(4) == 0 ? 10 : 100;
    }

    public static void main(String[] args) {
        Checks checks = new Checks("RandomTest");
        for (int run = 0; run < RUNS; run++) {
            new RandomTest(run).run(checks, run);
        }
        checks.end();
    }

    private void run(Checks checks, int run) {
        StringBuilder told = new StringBuilder();
        for (int k = 0; k < CALLS; k++) {
            step();
            told.append(' ').append(call);
            checks.due("run " + run + ", call " + k + ": " + call, got, want);
            if (got != want) {
                System.out.println("  behind:" + told);
                return;
            }
        }
    }

    /** Mostly from least to most, sometimes any number. */
    private int n(int least, int most) {
        if (random.nextInt(wildness) == 0) {
            return random.nextBoolean() ? WILD[random.nextInt(WILD.length)] : random.nextInt();
        }
        return least + random.nextInt(most - least + 1);
    }

    private int f() {
        return n(0, random.nextInt(3) == 0 ? 99 : 30);
    }

    private int clause() {
        int size = m.count(0);
        return n(0, random.nextInt(10) == 0 ? 8 : Math.max(0, size - 1));
    }

    private void answered(String what, int theirs, int models) {
        call = what;
        got = theirs;
        want = models;
    }

    private void step() {
        if (!letters.isEmpty()) {
            int letter = letters.removeFirst();
            if (letter == 0) {
                answered("agreement()", x.agreement(), m.agreement());
            } else {
                answered("type(" + letter + ")", x.type(letter), m.type(letter));
            }
            return;
        }
        int which = random.nextInt(40);
        if (which < 9) {
            tell(which);
        } else if (which < 18) {
            act(which);
        } else if (which < 32) {
            foretell(which);
        } else {
            lay(which);
        }
    }

    private void tell(int which) {
        int a = n(0, 4);
        int b = n(1, 20);
        int c = clause();
        int p = n(0, 3);
        int what = n(0, 7);
        int bars = n(0, (1 << m.count(0)) - 1) & (random.nextBoolean() ? random.nextInt() : -1);
        switch (which) {
            case 0: answered("clause(" + a + ", " + b + ", " + bars + ", " + p + ")", x.clause(a, b, bars, p), m.clause(a, b, bars, p)); break;
            case 1:
            case 2: answered("of(" + c + ", " + what + ")", x.of(c, what), m.of(c, what)); break;
            case 3: answered("party(" + p + ", " + what % 2 + ")", x.party(p, what % 2), m.party(p, what % 2)); break;
            case 4: answered("owe(" + c + ", " + p + ")", x.owe(c, p), m.owe(c, p)); break;
            case 5:
                if (random.nextInt(m.count(0) < 4 ? 2 : 12) == 0) {
                    text();
                }
                answered("count(" + what + ")", x.count(what), m.count(what));
                break;
            case 6: {
                int letter = n(32, 126);
                answered("type(" + letter + ")", x.type(letter), m.type(letter));
                break;
            }
            default: answered("count(" + what + ")", x.count(what), m.count(what));
        }
    }

    /** An agreement to come, letter by letter, sometimes with something changed in it. */
    private void text() {
        StringBuilder text = new StringBuilder();
        int clauses = 1 + random.nextInt(random.nextInt(20) == 0 ? 9 : 8);
        for (int k = 0; k < clauses; k++) {
            text.append(k == 0 ? "" : ",").append("hslog".charAt(random.nextInt(5))).append(1 + random.nextInt(20));
            int bars = random.nextInt(1 << k) & random.nextInt();
            text.append(bars == 0 ? "" : "/");
            for (int b = 0; b < k; b++) {
                text.append((bars >> b & 1) == 0 ? "" : b);
            }
            text.append(random.nextBoolean() ? "" : "@" + random.nextInt(4));
        }
        if (random.nextInt(3) == 0) {
            for (int k = random.nextInt(3); k >= 0; k--) {
                char letter = "hslog0123456789/@,, x".charAt(random.nextInt(21));
                int at = random.nextInt(text.length());
                if (random.nextBoolean()) {
                    text.insert(at, random.nextBoolean() ? ' ' : letter);
                } else {
                    text.setCharAt(at, letter);
                }
            }
            text.setLength(random.nextInt(3) == 0 ? random.nextInt(text.length()) : text.length());
        }
        for (int i = 0; i < text.length(); i++) {
            letters.add((int) text.charAt(i));
        }
        letters.add(0);
    }

    private void act(int which) {
        int a = f();
        int c = clause();
        switch (which) {
            case 9: answered("pull(" + a + ")", x.pull(a), m.pull(a)); break;
            case 10: answered("cut(" + c + ")", x.cut(c), m.cut(c)); break;
            case 11:
            case 12: answered("tie(" + c + ")", x.tie(c), m.tie(c)); break;
            case 13: a = n(0, 1); answered("wet(" + a + ")", x.wet(a), m.wet(a)); break;
            case 14: a = n(1, random.nextBoolean() ? 7 : 99); answered("days(" + a + ")", x.days(a), m.days(a)); break;
            case 15: a = n(1, random.nextBoolean() ? 2 : 40); answered("drift(" + a + ")", x.drift(a), m.drift(a)); break;
            case 16: a = random.nextInt(); answered("seed(" + a + ")", x.seed(a), m.seed(a)); break;
            default: answered("undo()", x.undo(), m.undo());
        }
    }

    private void foretell(int which) {
        int a = f();
        int b = n(0, 1);
        int c = clause();
        int d = clause();
        int k = n(1, 8);
        int p = n(0, 3);
        int t = n(0, 10);
        int o = n(-1, 8);
        switch (which) {
            case 18: answered("falls(" + a + ")", x.falls(a), m.falls(a)); break;
            case 19: answered("pulls(" + c + ", " + a + ")", x.pulls(c, a), m.pulls(c, a)); break;
            case 20: answered("force(" + c + ", " + k + ")", x.force(c, k), m.force(c, k)); break;
            case 21: answered("needs(" + c + ")", x.needs(c), m.needs(c)); break;
            case 22: answered("deep()", x.deep(), m.deep()); break;
            case 23: answered("frees(" + p + ", " + b + ")", x.frees(p, b), m.frees(p, b)); break;
            case 24:
                if (isWide()) {
                    answered("deep()", x.deep(), m.deep());
                } else {
                    answered("orders(" + o + ")", x.orders(o), m.orders(o));
                }
                break;
            case 25:
                if (isWide()) {
                    answered("deep()", x.deep(), m.deep());
                } else {
                    answered("ahead(" + c + ", " + d + ", " + b + ")", x.ahead(c, d, b), m.ahead(c, d, b));
                }
                break;
            case 26: answered("game(" + p % 2 + ", " + b + ")", x.game(p % 2, b), m.game(p % 2, b)); break;
            case 27: answered("cuts(" + c + ", " + a + ", " + b + ")", x.cuts(c, a, b), m.cuts(c, a, b)); break;
            case 28: answered("weather(" + c + ", " + a + ")", x.weather(c, a), m.weather(c, a)); break;
            case 29: answered("rotten(" + c + ", " + a + ", " + t + ", " + b + ")", x.rotten(c, a, t, b), m.rotten(c, a, t, b)); break;
            case 30: answered("image()", x.image(), m.image()); break;
            default:
                if (random.nextInt(4) == 0) {
                    answered("restore()", x.restore(), m.restore());
                } else {
                    answered("undo()", x.undo(), m.undo());
                }
        }
    }

    /** Too many free clauses for the Model to walk through all orders each time. */
    private boolean isWide() {
        return Integer.bitCount(m.count(4)) > 4 && random.nextInt(20) != 0;
    }

    private void lay(int which) {
        int s = n(0, 3);
        int t = n(0, 3);
        int lane = n(0, random.nextInt(3) == 0 ? 3 : 1);
        int i = n(0, random.nextBoolean() ? 3 : 24);
        int j = n(0, 12);
        int size = n(0, 24);
        int c = clause();
        int a = f();
        int b = n(0, 1);
        int pairs = n(1, random.nextInt(3) == 0 ? 6 : 1);
        long v = random.nextInt(20) == 0 ? random.nextLong() : n(0, random.nextBoolean() ? 3 : 99);
        switch (which) {
            case 32: answered("sheet(" + s + ", " + lane + ", " + size + ")", x.sheet(s, lane, size), m.sheet(s, lane, size)); break;
            case 33:
                if (random.nextInt(5) == 0) {
                    answered("drop(" + s + ")", x.drop(s), m.drop(s));
                } else {
                    answered("copy(" + s + ", " + i + ", " + t + ", " + j + ", " + size / 3 + ")", x.copy(s, i, t, j, size / 3), m.copy(s, i, t, j, size / 3));
                }
                break;
            case 34: answered("copy(" + s + ", " + i + ", " + t + ", " + j + ", " + size + ")", x.copy(s, i, t, j, size), m.copy(s, i, t, j, size)); break;
            case 35:
            case 36: answered("item(" + s + ", " + lane + ", " + i + ", " + v + ")", x.item(s, lane, i, v), m.item(s, lane, i, v)); break;
            case 37: answered("film(" + a + ", " + size + ", " + s + ", " + lane + ", " + i + ")", x.film(a, size, s, lane, i), m.film(a, size, s, lane, i)); break;
            default: answered("felt(" + c + ", " + s + ", " + lane + ", " + i + ", " + pairs + ", " + b + ")", x.felt(c, s, lane, i, pairs, b), m.felt(c, s, lane, i, pairs, b));
        }
    }
}
