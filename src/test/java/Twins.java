import java.util.ArrayList;
import java.util.List;
import java.util.function.Function;
import java.util.function.Supplier;
import java.util.function.ToIntFunction;

/**
 * Two objects with the same past, of which one is asked something more: whether both are alike behind it. Asking for
 * all that an object holds changes it, so each part of it is asked of new twins.
 */
final class Twins {
    private final Sentences sentences;

    Twins(Sentences sentences) {
        this.sentences = sentences;
    }

    /** Five clauses, three of them undone; four acts, an image, half a text, sheets of bytes, ints, nothing, bytes. */
    static KnotLaw midway() {
        return midway("s3,l4/0@");
    }

    static KnotLaw midway(String tape) {
        KnotLaw x = Checks.told("h5,s3/0@1,l9@2,o4/2@3,g20/13");
        x.seed(77);
        x.days(3);
        x.cut(4);
        x.image();
        x.wet(1);
        x.pull(10);
        x.seed(1234);
        x.owe(0, 2);
        Rows.lay(x, 0, 0, 1, 2, 3, 4, 5, 6);
        Rows.lay(x, 1, 2, 1, 2, 3, 4, 5, 6, 7, 8, 9, 10, 11, 12, 13, 14, 15, 16, 17, 18, 19, 1, 2, 3, 4, 5);
        Rows.lay(x, 3, 0, 5, 1, 100, 0);
        Rows.type(x, tape);
        return x;
    }

    /** Eight clauses, eight acts, day 9999, a hundred letters. */
    static KnotLaw full() {
        KnotLaw x = Checks.told("h1,h2,h3/1@2,h4,h5/0,l6,g7@3,o8");
        for (int k = 0; k < 101; k++) {
            x.days(99);
        }
        x.image();
        x.pull(3);
        x.cut(4);
        Rows.type(x, "s3,l4/0@");
        Rows.type(x, " ".repeat(92));
        return x;
    }

    void refused(String call, ToIntFunction<KnotLaw> asking, int want) {
        unchanged(call, Twins::midway, asking, want);
    }

    void refusedWhenFull(String call, ToIntFunction<KnotLaw> asking, int want) {
        unchanged(call, Twins::full, asking, want);
    }

    /** The call answers so, and changes nothing. */
    void unchanged(String call, Supplier<KnotLaw> past, ToIntFunction<KnotLaw> asking, int want) {
        unchangedBut(call, past, asking, want, List.of());
    }

    void unchangedBut(String call, Supplier<KnotLaw> past, ToIntFunction<KnotLaw> asking, int want, List<String> but) {
        for (Part part : PARTS) {
            KnotLaw asked = past.get();
            sentences.due(call, asking.applyAsInt(asked), want);
            if (!but.contains(part.name)) {
                String behind = part.told.apply(asked);
                sentences.due(part.name + " behind " + call, behind, part.told.apply(past.get()));
            }
        }
    }

    private record Part(String name, Function<KnotLaw, String> told) { }

    private static final List<Part> PARTS = parts();

    private static List<Part> parts() {
        List<Part> all = new ArrayList<>();
        all.add(new Part("the rope", Twins::rope));
        all.add(new Part("acts", Twins::acts));
        all.add(new Part("the image's rope", x -> x.restore() + " " + rope(x)));
        all.add(new Part("the image's acts", x -> x.restore() + " " + acts(x)));
        all.add(new Part("the tape", x -> x.type('2') + " " + x.agreement() + " " + rope(x)));
        all.add(new Part("the tape's letters", x -> x.agreement() + " " + rope(x)));
        for (int s = 0; s < 4; s++) {
            int sheet = s;
            all.add(new Part("sheet " + s, x -> Rows.told(x, sheet)));
        }
        return all;
    }

    static String rope(KnotLaw x) {
        StringBuilder told = new StringBuilder(counts(x));
        for (int c = 0; c < 8; c++) {
            for (int what = 0; what < 7; what++) {
                told.append(' ').append(x.of(c, what));
            }
        }
        for (int p = 0; p < 4; p++) {
            told.append(' ').append(x.party(p, 0)).append(' ').append(x.party(p, 1));
        }
        return told.append(" draw ").append(x.seed(1)).toString();
    }

    private static String counts(KnotLaw x) {
        StringBuilder told = new StringBuilder("counts");
        for (int what = 0; what < 8; what++) {
            told.append(' ').append(x.count(what));
        }
        return told.toString();
    }

    /** What taking back act by act answers and leaves. */
    static String acts(KnotLaw x) {
        StringBuilder told = new StringBuilder();
        for (int k = 0; k < 9; k++) {
            told.append(" undo ").append(x.undo()).append(' ').append(counts(x)).append(" draw ").append(x.seed(1));
        }
        return told.toString();
    }
}
