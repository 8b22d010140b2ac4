import java.lang.reflect.Method;
import java.lang.reflect.Modifier;
import java.nio.file.Files;
import java.nio.file.Path;
import java.util.List;
import java.util.regex.Matcher;
import java.util.regex.Pattern;

/** README.md's calls answer what stands behind them, and it leaves out no call and no test. */
public final class ReadmeTest {
    private static final Pattern TEXT = Pattern.compile("for \\(char letter : \"(.*)\"\\.toCharArray\\(\\)\\) law\\.type\\(letter\\);");
    private static final Pattern CALL = Pattern.compile("law\\.(\\w+)\\((.*?)\\); +// (-?\\d+)\\b.*");
    private static final Checks C = new Checks("ReadmeTest");
    private static KnotLaw law = new KnotLaw();
    private static int asked = 0;

    public static void main(String[] args) throws Exception {
        List<String> lines = Files.readAllLines(Path.of("README.md"));
        boolean isJava = false;
        for (String line : lines) {
            if (line.startsWith("```")) {
                isJava = line.equals("```java");
            } else if (isJava) {
                ask(line);
            }
        }
        C.due("some calls", asked > 20 ? 1 : 0, 1);
        String text = String.join("\n", lines);
        leavesOutNoCall(text.substring(text.indexOf("| calls |"), text.indexOf("## Tests")));
        leavesOutNoTest(text.substring(text.indexOf("## Tests")));
        C.end();
    }

    private static void ask(String line) throws Exception {
        Matcher text = TEXT.matcher(line);
        Matcher call = CALL.matcher(line);
        if (line.equals("KnotLaw law = new KnotLaw();")) {
            law = new KnotLaw();
        } else if (text.matches()) {
            Rows.type(law, text.group(1));
        } else if (call.matches()) {
            asked++;
            C.due(line, answer(call.group(1), call.group(2)), Long.parseLong(call.group(3)));
        } else {
            C.due("a line that can't be asked: " + line, 0, 1);
        }
    }

    private static long answer(String name, String told) throws Exception {
        String[] numbers = told.isEmpty() ? new String[0] : told.split(", ");
        for (Method m : KnotLaw.class.getMethods()) {
            if (m.getName().equals(name) && m.getParameterCount() == numbers.length) {
                Object[] values = new Object[numbers.length];
                for (int k = 0; k < numbers.length; k++) {
                    long v = number(numbers[k]);
                    if (m.getParameterTypes()[k] == long.class) {
                        values[k] = v;
                    } else {
                        values[k] = Math.toIntExact(v);
                    }
                }
                return (Integer) m.invoke(law, values);
            }
        }
        throw new IllegalStateException("no such call: " + name + "(" + told + ")");
    }

    private static long number(String text) {
        return text.startsWith("0b") ? Long.parseLong(text.substring(2), 2) : Long.parseLong(text);
    }

    private static void leavesOutNoCall(String table) {
        for (Method m : KnotLaw.class.getDeclaredMethods()) {
            if (Modifier.isPublic(m.getModifiers())) {
                C.due("tells of " + m.getName(), table.contains("`" + m.getName() + "`") ? 1 : 0, 1);
            }
        }
    }

    private static void leavesOutNoTest(String table) {
        for (String name : Path.of("src/test/java").toFile().list()) {
            if (name.endsWith("Test.java")) {
                C.due("tells of " + name, table.contains("`" + name.replace(".java", "") + "`") ? 1 : 0, 1);
            }
        }
    }
}
