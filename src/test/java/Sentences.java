import java.io.IOException;
import java.nio.file.Files;
import java.nio.file.Path;
import java.util.function.ToIntFunction;

/** Tests of the document's sentences, each on its own, told by where it stands and by its words. */
final class Sentences {
    static final int MIN = Integer.MIN_VALUE;
    static final int MAX = Integer.MAX_VALUE;

    private final String name;
    private final String document = document();
    private int asked = 0;
    private int wrong = 0;
    private int holding = 0;
    private int broken = 0;

    Sentences(String name) {
        this.name = name;
    }

    void holds(String place, String words, Runnable test) {
        asked = 0;
        wrong = 0;
        try {
            test.run();
        } catch (RuntimeException e) {
            wrong++;
            System.out.println("  threw " + e);
        }
        if (asked == 0 || wrong > 0) {
            broken++;
            System.out.println(name + ": does not hold: " + place + ": " + words);
        } else {
            holding++;
        }
        // Only told: the sentence still holds or not, whatever became of the document's words.
        if (!document.isEmpty() && !document.contains(words)) {
            System.out.println(name + ": the document has no such words: " + words);
        }
    }

    void due(String call, long got, long want) {
        asked++;
        if (got != want) {
            wrong++;
            System.out.println("  " + call + " answered " + got + ", due is " + want);
        }
    }

    void due(String call, String got, String want) {
        asked++;
        if (!got.equals(want)) {
            wrong++;
            System.out.println("  " + call + " answered " + got + ", due is " + want);
        }
    }

    /** What a call answers to each of some numbers. */
    void allDue(String call, ToIntFunction<Integer> of, int want, int... numbers) {
        for (int v : numbers) {
            due(call + " for " + v, of.applyAsInt(v), want);
        }
    }

    void end() {
        System.out.println(name + ": " + holding + " sentences hold, " + broken + " do not");
        if (broken != 0 || holding == 0) {
            System.exit(1);
        }
    }

    private static String document() {
        try {
            return Files.readString(Path.of("../shared/DOC.md"));
        } catch (IOException e) {
            return "";
        }
    }
}
