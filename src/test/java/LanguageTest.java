import java.lang.reflect.Constructor;
import java.lang.reflect.Field;
import java.lang.reflect.Method;
import java.lang.reflect.Modifier;
import java.nio.file.Files;
import java.nio.file.Path;
import java.util.ArrayList;
import java.util.List;
import java.util.Set;
import java.util.TreeSet;
import java.util.regex.Matcher;
import java.util.regex.Pattern;

/** What of ../shared/LANGUAGE.md can be looked up: the face, the members, their types, the words that are not allowed. */
public final class LanguageTest {
    private static final String FACE = "apart(int,int) attempt() byMarks(int,int) classes(int) court() day(int) dayTold(int,int)"
        + " diedAt(int) drift(int) fault() feed(int) firstNobody(int) fits() goBack(int) hire() judge() keep(int) lookOn()"
        + " person(int,int) reign() safe(int,int) seed(int) send(int,int) shownAll() tear() tell(boolean) told(int) undo()"
        + " watch(int,boolean) would(int,int,int) write(int,int)";
    private static final String WORDS = "throw throws try catch finally synchronized assert package native hashCode Object Exception Thread";
    private static final String IMPORTS = "java.util.ArrayList java.util.List java.util.Arrays java.util.Iterator";
    private static int wrong = 0;

    public static void main(String[] args) throws Exception {
        face();
        nested();
        for (Class<?> c : allClasses()) {
            methods(c);
            fields(c);
        }
        words();
        if (wrong != 0) {
            System.exit(1);
        }
    }

    private static void due(String what, Object got, Object want) {
        if (!got.equals(want)) {
            wrong++;
            System.out.println("rules: " + what + " is " + got + ", due is " + want);
        }
    }

    private static List<Class<?>> allClasses() {
        List<Class<?>> all = new ArrayList<>(List.of(DoubleChain.class.getDeclaredClasses()));
        all.add(DoubleChain.class);
        return all;
    }

    /** Rule 1. */
    private static void face() {
        Set<String> open = new TreeSet<>();
        for (Method m : DoubleChain.class.getDeclaredMethods()) {
            if (Modifier.isPublic(m.getModifiers())) {
                open.add(m.getName() + signature(m.getParameterTypes()));
                due(m.getName() + "'s answer", m.getReturnType(), int.class);
            } else {
                due(m.getName() + " is private", Modifier.isPrivate(m.getModifiers()), true);
            }
        }
        due("the face", String.join(" ", open), FACE);
        Constructor<?>[] constructors = DoubleChain.class.getDeclaredConstructors();
        due("constructors", constructors.length, 1);
        due("the constructor is public", Modifier.isPublic(constructors[0].getModifiers()), true);
        due("the class is public and final", DoubleChain.class.getModifiers(), Modifier.PUBLIC | Modifier.FINAL);
        Set<String> constants = new TreeSet<>();
        for (Field f : DoubleChain.class.getDeclaredFields()) {
            if (!Modifier.isPrivate(f.getModifiers())) {
                constants.add(f.getName());
                due(f.getName() + "'s modifiers", f.getModifiers(), Modifier.PUBLIC | Modifier.STATIC | Modifier.FINAL);
            }
        }
        due("the constants", constants.toString(), "[FULL, NONE, NOT, OUTSIDE, UNKNOWN]");
    }

    private static String signature(Class<?>[] types) {
        StringBuilder s = new StringBuilder("(");
        for (Class<?> type : types) {
            s.append(s.length() > 1 ? "," : "").append(type.getName());
        }
        return s.append(")").toString();
    }

    /** Rules 1, 2 and 11. */
    private static void nested() {
        due("some twelve classes at most", DoubleChain.class.getDeclaredClasses().length <= 12, true);
        for (Class<?> c : DoubleChain.class.getDeclaredClasses()) {
            due(c.getName() + " is public or protected", (c.getModifiers() & (Modifier.PUBLIC | Modifier.PROTECTED)) != 0, false);
            due(c.getName() + " is static", Modifier.isStatic(c.getModifiers()), true);
        }
    }

    /** Rules 1 and 11. */
    private static void methods(Class<?> c) {
        Set<String> names = new TreeSet<>();
        for (String method : FACE.split(" ")) {
            names.add(method.substring(0, method.indexOf('(')));
        }
        for (Method m : c.getDeclaredMethods()) {
            boolean bearsOne = Modifier.isPrivate(m.getModifiers()) && names.contains(m.getName());
            due(c.getName() + "." + m.getName() + ", private, bears a name of the face", bearsOne, false);
            due(c.getName() + "." + m.getName() + " has more than seven parameters", m.getParameterCount() > 7, false);
        }
    }

    /** Rules 3, 5 and 11. */
    private static void fields(Class<?> c) {
        int beside = 0;
        for (Field f : c.getDeclaredFields()) {
            boolean isStatic = Modifier.isStatic(f.getModifiers());
            beside += isStatic ? 0 : 1;
            due(c.getName() + "." + f.getName() + " is static, but not final", isStatic && !Modifier.isFinal(f.getModifiers()), false);
            due(c.getName() + "." + f.getName() + " is of a type allowed", isAllowed(f.getType()), true);
        }
        due(c.getName() + " has more than some twenty fields", beside > 20, false);
    }

    private static boolean isAllowed(Class<?> type) {
        if (type.isArray()) {
            Class<?> part = type.getComponentType();
            return part.isArray() ? part.getComponentType().isPrimitive() : isAllowed(part);
        }
        return type.isPrimitive() || type.getEnclosingClass() == DoubleChain.class || type == String.class
            || type == StringBuilder.class || type == List.class || type == ArrayList.class;
    }

    /** Rules 1, 2, 4 and 6. */
    private static void words() throws Exception {
        String source = Files.readString(Path.of("src/main/java/DoubleChain.java"));
        String code = source.replaceAll("(?s)/\\*.*?\\*/", " ").replaceAll("//[^\n]*", " ");
        for (String word : WORDS.split(" ")) {
            due(word + " stands in the code", Pattern.compile("\\b" + word + "\\b").matcher(code).find(), false);
        }
        Matcher imports = Pattern.compile("\\bimport\\s+([^;]+);").matcher(code);
        while (imports.find()) {
            due("import of " + imports.group(1) + " is allowed", List.of(IMPORTS.split(" ")).contains(imports.group(1)), true);
        }
        String withoutCases = code.replaceAll("\\b(case\\b[^:;>]*|default\\s*)->", " ");
        due("-> stands in the code, but behind a case", withoutCases.contains("->"), false);
        due(":: stands in the code", code.contains("::"), false);
        due("Exact( stands in the code", code.contains("Exact("), false);
        due("signs above 127 stand in the code", code.chars().anyMatch(c -> c > 127), false);
    }
}
