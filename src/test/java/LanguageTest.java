import java.lang.reflect.Constructor;
import java.lang.reflect.Field;
import java.lang.reflect.Method;
import java.lang.reflect.Modifier;
import java.nio.file.Files;
import java.nio.file.Path;
import java.util.Set;
import java.util.TreeSet;
import java.util.regex.Pattern;

/** What of ../shared/LANGUAGE.md can be looked up: the face, the members, the words that are not allowed. */
public final class LanguageTest {
    private static final String FACE = "apart(int,int) attempt() byMarks(int,int) classes(int) court() day(int) dayTold(int,int)"
        + " diedAt(int) drift(int) fault() feed(int) firstNobody(int) fits() goBack(int) hire() judge() keep(int) lookOn()"
        + " person(int,int) reign() safe(int,int) seed(int) send(int,int) shownAll() tear() tell(boolean) told(int) undo()"
        + " watch(int,boolean) would(int,int,int) write(int,int)";
    private static final String WORDS = "throw throws try catch finally synchronized assert package native hashCode Object Exception Thread";
    private static int wrong = 0;

    public static void main(String[] args) throws Exception {
        face();
        nested();
        words();
        if (wrong != 0) {
            System.exit(1);
        }
    }

    private static void due(String what, Object got, Object want) {
        if (!got.equals(want)) {
            wrong++;
            System.out.println("rules: " + what + " is " + got + ", due is " + want);
        }
    }

    private static void face() {
        Set<String> open = new TreeSet<>();
        for (Method m : DoubleChain.class.getDeclaredMethods()) {
            if (Modifier.isPublic(m.getModifiers())) {
                open.add(m.getName() + signature(m.getParameterTypes()));
                due(m.getName() + "'s answer", m.getReturnType(), int.class);
            } else {
                due(m.getName() + " is private", Modifier.isPrivate(m.getModifiers()), true);
            }
        }
        due("the face", String.join(" ", open), FACE);
        Constructor<?>[] constructors = DoubleChain.class.getDeclaredConstructors();
        due("constructors", constructors.length, 1);
        due("the constructor is public", Modifier.isPublic(constructors[0].getModifiers()), true);
        due("the class is public and final", DoubleChain.class.getModifiers(), Modifier.PUBLIC | Modifier.FINAL);
        Set<String> constants = new TreeSet<>();
        for (Field f : DoubleChain.class.getDeclaredFields()) {
            boolean isOpen = !Modifier.isPrivate(f.getModifiers());
            if (isOpen) {
                constants.add(f.getName());
                due(f.getName() + "'s modifiers", f.getModifiers(), Modifier.PUBLIC | Modifier.STATIC | Modifier.FINAL);
            }
            due(f.getName() + " is static only if final", !Modifier.isStatic(f.getModifiers()) || Modifier.isFinal(f.getModifiers()), true);
        }
        due("the constants", constants.toString(), "[FULL, NONE, NOT, OUTSIDE, UNKNOWN]");
    }

    private static String signature(Class<?>[] types) {
        StringBuilder s = new StringBuilder("(");
        for (Class<?> type : types) {
            s.append(s.length() > 1 ? "," : "").append(type.getName());
        }
        return s.append(")").toString();
    }

    private static void nested() {
        Set<String> names = new TreeSet<>();
        for (String method : FACE.split(" ")) {
            names.add(method.substring(0, method.indexOf('(')));
        }
        Class<?>[] inside = DoubleChain.class.getDeclaredClasses();
        due("some twelve classes at most", inside.length <= 12, true);
        for (Class<?> c : inside) {
            due(c.getName() + " is private and static",
                Modifier.isPrivate(c.getModifiers()) && Modifier.isStatic(c.getModifiers()), true);
            due(c.getName() + " has at most twenty fields", c.getDeclaredFields().length <= 20, true);
            for (Method m : c.getDeclaredMethods()) {
                due(c.getName() + "." + m.getName() + " bears a name of the face", names.contains(m.getName()), false);
            }
        }
    }

    private static void words() throws Exception {
        String source = Files.readString(Path.of("src/main/java/DoubleChain.java"));
        String code = source.replaceAll("(?s)/\\*.*?\\*/", " ").replaceAll("//[^\n]*", " ");
        for (String word : WORDS.split(" ")) {
            due(word + " stands in the code", Pattern.compile("\\b" + word + "\\b").matcher(code).find(), false);
        }
        due("-> stands in the code", code.contains("->"), false);
        due(":: stands in the code", code.contains("::"), false);
        due("signs above 127 stand in the file", source.chars().anyMatch(c -> c > 127), false);
    }
}
