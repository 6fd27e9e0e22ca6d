import java.lang.reflect.Method;
import java.lang.reflect.Modifier;
import java.nio.file.Files;
import java.nio.file.Path;
import java.util.regex.Matcher;
import java.util.regex.Pattern;

/** The examples of README.md, one run on one object: each call answers what stands behind it. */
public final class ReadmeTest {
    private static final Pattern CALL = Pattern.compile("\\s*x\\.(\\w+)\\((.*)\\);\\s*// (-?\\d+|[A-Z]+)\\b.*");
    private static final Pattern TEXT = Pattern.compile("String text = \"(.*)\";");
    private static final int CALLS = 45;

    private static final Check T = new Check();
    private static DoubleChain x = null;
    private static int calls = 0;

    public static void main(String[] args) throws Exception {
        boolean example = false;
        for (String line : Files.readAllLines(Path.of("README.md"))) {
            if (line.startsWith("```")) {
                example = line.equals("```java");
            } else if (example) {
                follow(line);
            }
        }
        T.due("README.md: as many calls as were written", calls >= CALLS ? 1 : 0, 1);
        everyCallIsNamed();
        T.end();
    }

    private static void follow(String line) throws Exception {
        Matcher text = TEXT.matcher(line);
        Matcher call = CALL.matcher(line);
        if (line.equals("DoubleChain x = new DoubleChain();")) {
            x = new DoubleChain();
        } else if (text.matches()) {
            Check.feed(x, text.group(1));
        } else if (call.matches()) {
            calls++;
            T.due("README.md: " + line.trim(), answer(call.group(1), call.group(2)), number(call.group(3)));
        } else {
            T.due("README.md: known line: " + line, line.matches("for .*|    x\\.feed\\(text\\.charAt\\(i\\)\\);|}") ? 1 : 0, 1);
        }
    }

    private static int answer(String name, String given) throws Exception {
        String[] numbers = given.isEmpty() ? new String[0] : given.split(", ");
        for (Method m : DoubleChain.class.getMethods()) {
            if (m.getName().equals(name) && m.getParameterCount() == numbers.length) {
                Object[] values = new Object[numbers.length];
                for (int i = 0; i < values.length; i++) {
                    boolean yesOrNo = m.getParameterTypes()[i] == boolean.class;
                    values[i] = yesOrNo ? (Object) Boolean.valueOf(numbers[i]) : (Object) number(numbers[i]);
                }
                return (int) m.invoke(x, values);
            }
        }
        throw new IllegalStateException("README.md: no such call: " + name);
    }

    private static int number(String word) throws Exception {
        if (word.matches("[A-Z]+")) {
            return DoubleChain.class.getField(word).getInt(null);
        }
        return word.startsWith("'") ? word.charAt(1) : Integer.parseInt(word);
    }

    private static void everyCallIsNamed() throws Exception {
        String readme = Files.readString(Path.of("README.md"));
        for (Method m : DoubleChain.class.getDeclaredMethods()) {
            boolean open = Modifier.isPublic(m.getModifiers());
            T.due("README.md names " + m.getName(), open && !readme.contains(m.getName() + "(") ? 0 : 1, 1);
        }
    }
}
