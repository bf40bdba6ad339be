import java.io.IOException;
import java.lang.reflect.Constructor;
import java.lang.reflect.Field;
import java.lang.reflect.Method;
import java.lang.reflect.Modifier;
import java.nio.file.Files;
import java.nio.file.Path;
import java.util.HashMap;
import java.util.HashSet;
import java.util.Map;
import java.util.Set;
import java.util.regex.Matcher;
import java.util.regex.Pattern;

/** The class has the document's face and nothing more, and its text keeps to plain rules of LANGUAGE.md. */
public final class FaceTest {
    private static final Check check = new Check("FaceTest");

    private static final String[] FACE = {
        "int ground(int, int)", "int set(int, int, int)", "int height(int, int)", "int copy(int, int)",
        "int cubes(int)", "int front(int, int)", "int side(int, int)", "int sum(int, boolean, int)",
        "int seen(int, int, int)", "int skin(int)", "int layer(int, int, boolean)", "int water(int)",
        "int level(int, int)", "int tell(boolean, int, int)", "int tellTop(int, int)",
        "int tellAs(int, boolean)", "int fits(int)", "long heaps()", "long with(int, int)",
        "int span(int, boolean)", "int count(boolean)", "int lay(int, long)", "long place(int)",
        "int tellSum(boolean, int, int)", "int sumsAs(int)", "int bySums()", "int laySums(int)",
        "int spanSums(int, boolean)", "int carry(int, int)", "int turn(int, int)", "int alike(int, int)",
        "int same(int)", "int least(int)", "int about(int)"};

    private static final String[] FORBIDDEN = {"throw", "throws", "try", "catch", "synchronized", "assert",
        "package", "protected", "new Object", "->", "::", "Exact\\(", "System\\.(?!arraycopy)"};

    private static final Set<String> LIBRARY = Set.of("Arrays.fill", "Math.max", "Math.min", "Integer.bitCount",
        "Integer.numberOfLeadingZeros", "Integer.numberOfTrailingZeros");
    private static final int MOST_LINES = 60;

    public static void main(String[] args) throws IOException {
        members();
        constants();
        nestedClasses();
        sourceText();
        check.end();
    }

    private static String signature(Method method) {
        StringBuilder text = new StringBuilder();
        text.append(method.getReturnType()).append(' ').append(method.getName()).append('(');
        for (int i = 0; i < method.getParameterCount(); i++) {
            text.append(i == 0 ? "" : ", ").append(method.getParameterTypes()[i]);
        }
        return text.append(')').toString();
    }

    private static void members() {
        check.due("the modifiers of the class", CubeHeaps.class.getModifiers(), Modifier.PUBLIC | Modifier.FINAL);
        Set<String> wanted = new HashSet<>(Set.of(FACE));
        for (Method method : CubeHeaps.class.getDeclaredMethods()) {
            int is = method.getModifiers();
            if (Modifier.isPrivate(is) || method.isSynthetic()) continue;
            check.due("the modifiers of " + signature(method), is, Modifier.PUBLIC);
            check.holds(signature(method) + " is of the face", wanted.remove(signature(method)));
        }
        check.holds("no method is missing: " + wanted, wanted.isEmpty());
        Constructor<?>[] made = CubeHeaps.class.getDeclaredConstructors();
        check.due("constructors", made.length, 1);
        check.due("the constructor's parameters", made[0].getParameterCount(), 0);
        check.holds("the constructor is public", Modifier.isPublic(made[0].getModifiers()));
    }

    private static void constants() {
        Map<String, Integer> wanted = new HashMap<>(Map.of("UNKNOWN", -1, "OUTSIDE", -2, "STATE", -3, "NONE", -9));
        for (Field field : CubeHeaps.class.getDeclaredFields()) {
            int is = field.getModifiers();
            if (Modifier.isPrivate(is)) continue;
            check.due("the modifiers of " + field.getName(), is, Modifier.PUBLIC | Modifier.STATIC | Modifier.FINAL);
            check.holds(field.getName() + " is of the face", wanted.remove(field.getName()) != null);
        }
        check.holds("no constant is missing: " + wanted, wanted.isEmpty());
        check.due("UNKNOWN", CubeHeaps.UNKNOWN, -1);
        check.due("OUTSIDE", CubeHeaps.OUTSIDE, -2);
        check.due("STATE", CubeHeaps.STATE, -3);
        check.due("NONE", CubeHeaps.NONE, -9);
    }

    private static void nestedClasses() {
        Set<String> publicNames = new HashSet<>();
        for (Method method : CubeHeaps.class.getMethods()) publicNames.add(method.getName());
        Class<?>[] nested = CubeHeaps.class.getDeclaredClasses();
        check.holds("there are at most twelve classes", nested.length < 12);
        check.holds("the class has at most twenty fields", instanceFields(CubeHeaps.class) <= 20);
        for (Class<?> one : nested) {
            check.holds(one + " is static", Modifier.isStatic(one.getModifiers()));
            check.holds(one + " has at most twenty fields", instanceFields(one) <= 20);
            for (Method method : one.getDeclaredMethods()) {
                check.holds(method + " has no name of the face", !publicNames.contains(method.getName()));
                check.holds(method + " has at most seven parameters", method.getParameterCount() <= 7);
            }
        }
    }

    private static int instanceFields(Class<?> one) {
        int found = 0;
        for (Field field : one.getDeclaredFields()) {
            if (!Modifier.isStatic(field.getModifiers())) found++;
            else check.holds(field + " is final", Modifier.isFinal(field.getModifiers()));
        }
        return found;
    }

    private static void sourceText() throws IOException {
        String text = Files.readString(Path.of("src/main/java/CubeHeaps.java"));
        String code = text.replaceAll("(?s)/\\*.*?\\*/", "").replaceAll("//[^\n]*", "");
        for (String word : FORBIDDEN) {
            String pattern = Character.isLetter(word.charAt(0)) && !word.endsWith(")") && !word.endsWith("(")
                ? "\\b" + word + "\\b" : word;
            check.holds("the class has no " + word, !Pattern.compile(pattern).matcher(code).find());
        }
        check.holds("it uses nothing but Arrays",
            code.replace("import java.util.Arrays;", "").indexOf("import ") < 0 && !code.contains("java.lang"));
        check.holds("it has no texts", code.indexOf('"') < 0);
        libraryCalls(code);
        methodLengths(code);
    }

    /** Static calls are those of the class's own classes and of the library that rule 4 names. */
    private static void libraryCalls(String code) {
        Set<String> own = new HashSet<>();
        for (Class<?> one : CubeHeaps.class.getDeclaredClasses()) own.add(one.getSimpleName());
        Matcher call = Pattern.compile("\\b([A-Z]\\w*)\\.(\\w+)\\(").matcher(code);
        while (call.find()) {
            String name = call.group(1) + "." + call.group(2);
            check.holds("rule 4 names " + name, own.contains(call.group(1)) || LIBRARY.contains(name));
        }
    }

    /** Rule 11: a method has some sixty lines at most; it starts and ends at the same depth. */
    private static void methodLengths(String code) {
        Matcher method = Pattern.compile("(?ms)^( {4}| {8})(?! |for|if|while|switch)[^\n=]*\\) \\{\n(.*?)^\\1\\}").matcher(code);
        int found = 0;
        while (method.find()) {
            found++;
            int lines = method.group(2).split("\n").length;
            check.holds("a method of " + lines + " lines is short: " + method.group(2), lines <= MOST_LINES);
        }
        check.holds("the methods were found, so many: " + found, found > FACE.length);
    }
}
