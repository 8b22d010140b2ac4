import java.lang.reflect.Constructor;
import java.lang.reflect.Field;
import java.lang.reflect.Method;
import java.lang.reflect.Modifier;
import java.util.Set;
import java.util.TreeSet;

/** The public face is that of the document and no more; rules 1, 5 and 12 of LANGUAGE.md, as far as can be seen. */
public final class FaceTest {
    private static final String[] FACE = {
        "int clause(int,int,int,int)", "int of(int,int)", "int party(int,int)", "int owe(int,int)", "int type(int)",
        "int agreement()", "int count(int)", "int pull(int)", "int cut(int)", "int tie(int)", "int wet(int)",
        "int days(int)", "int drift(int)", "int undo()", "int seed(int)", "int falls(int)", "int pulls(int,int)",
        "int force(int,int)", "int needs(int)", "int deep()", "int frees(int,int)", "int orders(int)",
        "int ahead(int,int,int)", "int game(int,int)", "int cuts(int,int,int)", "int weather(int,int)",
        "int rotten(int,int,int,int)", "int image()", "int restore()", "int felt(int,int,int,int,int,int)",
        "int film(int,int,int,int,int)", "int sheet(int,int,int)", "int drop(int)", "int item(int,int,int,long)",
        "int copy(int,int,int,int,int)"};
    private static final String[] CONSTANTS = {"BAD", "NOT", "FULL", "NONE", "NULL", "CAST", "INDEX", "SIZE"};
    private static final int[] VALUES = {-1, -2, -3, -4, -11, -12, -13, -14};
    private static final Checks C = new Checks("FaceTest");

    public static void main(String[] args) throws Exception {
        C.due("public and final", KnotLaw.class.getModifiers(), Modifier.PUBLIC | Modifier.FINAL);
        Set<String> face = new TreeSet<>(Set.of(FACE));
        Set<String> names = new TreeSet<>();
        for (String one : FACE) {
            names.add(one.substring(4, one.indexOf('(')));
        }
        methods(face, names);
        constants();
        constructors();
        inside(names);
        C.end();
    }

    private static void methods(Set<String> face, Set<String> names) {
        Set<String> left = new TreeSet<>(face);
        for (Method m : KnotLaw.class.getDeclaredMethods()) {
            String text = m.toString().replace("KnotLaw.", "");
            if (Modifier.isPrivate(m.getModifiers())) {
                C.due("a private method's name is of its own: " + text, names.contains(m.getName()) ? 1 : 0, 0);
            } else {
                C.due("of the face: " + text, left.remove(text.replace("public ", "")) ? 1 : 0, 1);
            }
        }
        C.due("missing " + left, left.size(), 0);
    }

    private static void constants() throws Exception {
        for (int k = 0; k < CONSTANTS.length; k++) {
            Field field = KnotLaw.class.getField(CONSTANTS[k]);
            C.due(CONSTANTS[k], field.getInt(null), VALUES[k]);
        }
        Set<String> face = Set.of(CONSTANTS);
        for (Field field : KnotLaw.class.getDeclaredFields()) {
            boolean isPrivate = Modifier.isPrivate(field.getModifiers());
            C.due("private or of the face: " + field, isPrivate != face.contains(field.getName()) ? 1 : 0, 1);
            staticIsFinal(field);
        }
    }

    private static void staticIsFinal(Field field) {
        int m = field.getModifiers();
        C.due("static fields are final: " + field, Modifier.isStatic(m) && !Modifier.isFinal(m) ? 1 : 0, 0);
    }

    private static void constructors() {
        Constructor<?>[] all = KnotLaw.class.getDeclaredConstructors();
        C.due("one constructor", all.length, 1);
        C.due("public", all[0].getModifiers(), Modifier.PUBLIC);
        C.due("of no parameters", all[0].getParameterCount(), 0);
    }

    private static void inside(Set<String> names) {
        Class<?>[] all = KnotLaw.class.getDeclaredClasses();
        C.due("some twelve classes at most", all.length <= 11 ? 1 : 0, 1);
        for (Class<?> one : all) {
            C.due("static: " + one, Modifier.isStatic(one.getModifiers()) ? 1 : 0, 1);
            C.due("not public: " + one, Modifier.isPublic(one.getModifiers()) ? 1 : 0, 0);
            for (Method m : one.getDeclaredMethods()) {
                C.due("a name of its own: " + m, names.contains(m.getName()) ? 1 : 0, 0);
                C.due("seven parameters at most: " + m, m.getParameterCount() <= 7 ? 1 : 0, 1);
            }
            for (Field field : one.getDeclaredFields()) {
                staticIsFinal(field);
            }
            for (Constructor<?> made : one.getDeclaredConstructors()) {
                C.due("rule 12, nothing is handed out to it: " + made, made.getParameterCount(), 0);
            }
        }
    }
}
