/** Counts answers and tells those that are not as due. */
final class Checks {
    private final String name;
    private int right = 0;
    private int wrong = 0;

    Checks(String name) {
        this.name = name;
    }

    void due(String call, long got, long want) {
        if (got == want) {
            right++;
            return;
        }
        wrong++;
        System.out.println(name + ": " + call + " answered " + got + ", due is " + want);
    }

    void end() {
        System.out.println(name + ": " + right + " answers as due, " + wrong + " not");
        if (wrong != 0 || right == 0) {
            System.exit(1);
        }
    }

    /** An object whose clauses are those of a text. */
    static KnotLaw told(String text) {
        KnotLaw x = new KnotLaw();
        int answer = tell(x, text);
        if (answer < 1) {
            throw new IllegalStateException("no agreement: " + text + ": " + answer);
        }
        return x;
    }

    static int tell(KnotLaw x, String text) {
        for (int i = 0; i < text.length(); i++) {
            x.type(text.charAt(i));
        }
        return x.agreement();
    }

    static int set(int... numbers) {
        int set = 0;
        for (int n : numbers) {
            set |= 1 << n;
        }
        return set;
    }
}
