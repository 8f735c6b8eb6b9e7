import java.io.IOException;
import java.lang.reflect.Field;
import java.lang.reflect.Method;
import java.lang.reflect.Modifier;
import java.nio.file.Files;
import java.nio.file.Path;
import java.util.ArrayList;
import java.util.Arrays;
import java.util.List;
import java.util.TreeSet;
import java.util.regex.Matcher;
import java.util.regex.Pattern;

/** The public face of the document, and what of LANGUAGE.md a look at the class and its text can tell. */
public final class FaceTest {
    private static final Class<?> FACE = EnumerativeCoder.class;
    private static final List<String> METHODS = List.of(
        "int selectSubsets(int, int, int)", "int selectPermutations(int, int)", "int selectWords(int, int)",
        "int selectTrees(int)", "int selectPartitions(int, int)", "int selectArrangements(int, int, int, int)",
        "int family()", "int parameter(int)", "int length()", "long count()", "int put(int, int)", "int get(int)",
        "int isObject()", "long rank()", "int unrank(long)", "int step(int)", "long draw(long)", "int transform()",
        "int toWord()", "int toTree()", "int descents()", "int store()", "int fetch(int)", "int clear()",
        "int entries()", "long total()", "long code()", "int decode(long)", "int sort()");
    private static final List<String> CONSTANTS = List.of("BAD_VALUE = -1", "NOT_AN_OBJECT = -2",
        "WRONG_FAMILY = -3", "FULL = -4", "NO_SUCH_ENTRY = -5", "NONE = -6");
    private static final List<String> FORBIDDEN = List.of("\\btry\\b", "\\bcatch\\b", "\\bthrow", "\\bsynchronized\\b",
        "\\bassert\\b", "\\bimport\\b", "\\bpackage\\b", "->", "::", "\\bequals\\b", "\\bhashCode\\b", "\\btoString\\b",
        "Exact\\b", "\\bSystem\\b", "\\bThread\\b", "\\bRandom\\b", "\\bstatic \\{", "\\bObject\\b", "\\bvar\\b", "@", "\"");

    public static void main(String[] args) throws IOException, IllegalAccessException {
        theFaceIsWhole();
        nothingElseIsVisible();
        String text = Files.readString(Path.of("src/main/java/EnumerativeCoder.java"));
        theTextKeepsTheRules(text.replaceAll("(?s)/\\*.*?\\*/", "").replaceAll("//.*", ""));
        methodsAreShort(text);
        Tally.end();
    }

    private static void theFaceIsWhole() throws IllegalAccessException {
        List<String> methods = new ArrayList<>();
        for (Method method : FACE.getDeclaredMethods()) {
            if (Modifier.isPublic(method.getModifiers())) {
                String types = Arrays.stream(method.getParameterTypes()).map(Class::getName).reduce((a, b) -> a + ", " + b).orElse("");
                methods.add(method.getReturnType() + " " + method.getName() + "(" + types + ")");
                Tally.holds(method + " is no static method", !Modifier.isStatic(method.getModifiers()));
            }
        }
        Tally.holds("the public methods " + methods, new TreeSet<>(methods).equals(new TreeSet<>(METHODS)));
        Tally.same("the number of public methods", methods.size(), METHODS.size());
        List<String> constants = new ArrayList<>();
        for (Field field : FACE.getFields()) {
            constants.add(field.getName() + " = " + field.getInt(null));
            Tally.same("modifiers of " + field, field.getModifiers(), Modifier.PUBLIC | Modifier.STATIC | Modifier.FINAL);
        }
        Tally.holds("the constants " + constants, new TreeSet<>(constants).equals(new TreeSet<>(CONSTANTS)));
        Tally.same("modifiers of the class", FACE.getModifiers(), Modifier.PUBLIC | Modifier.FINAL);
        Tally.same("the number of constructors", FACE.getDeclaredConstructors().length, 1);
        Tally.same("the number of public constructors", FACE.getConstructors().length, 1);
        Tally.same("the constructor's parameters", FACE.getConstructors()[0].getParameterCount(), 0);
    }

    private static void nothingElseIsVisible() {
        TreeSet<String> publicNames = new TreeSet<>();
        for (Method method : FACE.getMethods()) {
            publicNames.add(method.getName());
        }
        List<Class<?>> classes = new ArrayList<>(List.of(FACE.getDeclaredClasses()));
        Tally.holds("at most twelve classes", classes.size() + 1 <= 12);
        for (Class<?> inside : classes) {
            Tally.holds(inside + " is static", Modifier.isStatic(inside.getModifiers()));
            Tally.holds(inside + " is hidden", Modifier.isPrivate(inside.getModifiers()));
        }
        for (Field field : FACE.getDeclaredFields()) {
            Tally.holds(field + " is public or private", (field.getModifiers() & (Modifier.PUBLIC | Modifier.PRIVATE)) != 0);
        }
        for (Method method : FACE.getDeclaredMethods()) {
            Tally.holds(method + " is public or private", (method.getModifiers() & (Modifier.PUBLIC | Modifier.PRIVATE)) != 0);
        }
        classes.add(FACE);
        for (Class<?> any : classes) {
            int fields = 0;
            for (Field field : any.getDeclaredFields()) {
                boolean fixed = Modifier.isStatic(field.getModifiers());
                fields += fixed ? 0 : 1;
                Tally.holds(field + " is final if static", !fixed || Modifier.isFinal(field.getModifiers()));
            }
            Tally.holds(any + " has at most twenty fields", fields <= 20);
            for (Method method : any.getDeclaredMethods()) {
                Tally.holds(method + " has at most seven parameters", method.getParameterCount() <= 7);
                boolean open = Modifier.isPublic(method.getModifiers());
                Tally.holds(method + " has a name of its own", open || !publicNames.contains(method.getName()));
            }
        }
    }

    private static void theTextKeepsTheRules(String text) {
        for (String word : FORBIDDEN) {
            Matcher matcher = Pattern.compile(word).matcher(text);
            Tally.holds("no " + word + " in the text", !matcher.find());
        }
        Matcher library = Pattern.compile("\\b([A-Z][A-Za-z]+)\\.([a-z]\\w*)").matcher(text);
        List<String> allowed = List.of("Math.min", "Integer.compare", "Long.compare");
        List<String> own = Arrays.stream(FACE.getDeclaredClasses()).map(Class::getSimpleName).toList();
        while (library.find()) {
            boolean known = own.contains(library.group(1)) || allowed.contains(library.group());
            Tally.holds(library.group() + " is allowed", known);
        }
    }

    /** A method begins where a line ends with an opening brace behind a parameter list, and ends at its depth. */
    private static void methodsAreShort(String text) {
        String[] lines = text.split("\n");
        for (int i = 0; i < lines.length; i++) {
            Matcher head = Pattern.compile("^( +)(?!if|for|while|switch|else|do|\\})\\S.*\\) \\{$").matcher(lines[i]);
            if (head.matches()) {
                int end = i;
                while (end < lines.length && !lines[end].equals(head.group(1) + "}")) {
                    end++;
                }
                Tally.holds("at most sixty lines:" + lines[i], end - i <= 60);
            }
        }
    }
}
