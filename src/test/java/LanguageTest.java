import java.io.IOException;
import java.lang.reflect.Executable;
import java.lang.reflect.Field;
import java.lang.reflect.Method;
import java.lang.reflect.Modifier;
import java.nio.file.Files;
import java.nio.file.Path;
import java.util.Arrays;
import java.util.Set;
import java.util.TreeSet;
import java.util.regex.Matcher;
import java.util.regex.Pattern;
import java.util.stream.Collectors;

/** The public face of the document, and what of LANGUAGE.md can be seen from the text. */
final class LanguageTest {
    private static final String[] FACE = {
        "boolean isNear(int, int) throws IllegalStateException, IllegalArgumentException",
        "double stay(int) throws IllegalStateException, IllegalArgumentException",
        "int actor(int, int, boolean) throws IllegalStateException, IllegalArgumentException",
        "int append(int, int, int, int, int) throws IllegalStateException",
        "int bestCost() throws IllegalStateException",
        "int bestShot(int, int) throws IllegalStateException, IllegalArgumentException,"
            + " NoSuchElementException",
        "int change(int, int) throws IllegalStateException, IllegalArgumentException",
        "int count(int) throws IllegalStateException, IllegalArgumentException",
        "int days(int) throws IllegalStateException, IllegalArgumentException",
        "int direction(int, int) throws IllegalStateException, IllegalArgumentException",
        "int drop(int) throws IllegalStateException, IllegalArgumentException",
        "int errorPosition()",
        "int eyeline(int) throws IllegalStateException, IllegalArgumentException",
        "int fault(int, int) throws IllegalStateException, IllegalArgumentException,"
            + " NoSuchElementException",
        "int faults() throws IllegalStateException",
        "int faultsOf(int) throws IllegalStateException, IllegalArgumentException",
        "int faultsWith(int, int, int) throws IllegalStateException, IllegalArgumentException",
        "int flip(int) throws IllegalStateException, IllegalArgumentException",
        "int join(int, int) throws IllegalStateException, IllegalArgumentException",
        "int joinable(int) throws IllegalStateException, IllegalArgumentException",
        "int leastReach(int) throws IllegalStateException, IllegalArgumentException",
        "int load()",
        "int look(int) throws IllegalStateException, IllegalArgumentException",
        "int mend() throws IllegalStateException",
        "int moveActor(int, int, int, int) throws IllegalStateException,"
            + " IllegalArgumentException",
        "int moveCamera(int, int, int) throws IllegalStateException, IllegalArgumentException",
        "int ordered(int) throws IllegalStateException, IllegalArgumentException,"
            + " NoSuchElementException",
        "int plainCost() throws IllegalStateException",
        "int planByte(int) throws IllegalStateException, IllegalArgumentException,"
            + " NoSuchElementException",
        "int scene(int, int) throws IllegalStateException, IllegalArgumentException",
        "int setCast(int, int, int) throws IllegalStateException, IllegalArgumentException",
        "int setLength(int, int) throws IllegalStateException, IllegalArgumentException",
        "int setLight(int, int) throws IllegalStateException, IllegalArgumentException",
        "int setLimits(int, int, int) throws IllegalStateException, IllegalArgumentException",
        "int setup(int, int) throws IllegalStateException, IllegalArgumentException",
        "int setupOf(int) throws IllegalStateException, IllegalArgumentException",
        "int setups() throws IllegalStateException",
        "int shift(int, int) throws IllegalStateException, IllegalArgumentException",
        "int shot(int, int) throws IllegalStateException, IllegalArgumentException",
        "int side(int) throws IllegalStateException, IllegalArgumentException",
        "int truncate(int) throws IllegalArgumentException",
        "int undo() throws IllegalStateException",
        "int view(int) throws IllegalStateException, IllegalArgumentException",
        "int visible(int) throws IllegalStateException, IllegalArgumentException",
        "int writePlan() throws IllegalStateException"};

    private LanguageTest() {
    }

    static void run(String source) throws IOException {
        face();
        privateMembers();
        String text = Files.readString(Path.of(source));
        library(text);
        fewClassesAndFields();
        shortMethods(text);
    }

    private static void face() {
        Set<String> due = new TreeSet<>(Arrays.asList(FACE));
        Set<String> got = new TreeSet<>();
        for (Method method : ShotListPlanner.class.getDeclaredMethods()) {
            if (Modifier.isPublic(method.getModifiers())) {
                got.add(method.getReturnType() + " " + method.getName() + signature(method));
            }
        }
        Checks.same("the face", String.join("\n", due), String.join("\n", got));
        Checks.same("the constructors", "[public ShotListPlanner()]",
                Arrays.toString(ShotListPlanner.class.getDeclaredConstructors()));
        Checks.same("the class", "public final",
                Modifier.toString(ShotListPlanner.class.getModifiers()));
    }

    private static String signature(Executable method) {
        String thrown = names(method.getExceptionTypes());
        return "(" + names(method.getParameterTypes()) + ")"
                + (thrown.isEmpty() ? "" : " throws " + thrown);
    }

    private static String names(Class<?>[] types) {
        return Arrays.stream(types).map(Class::getSimpleName).collect(Collectors.joining(", "));
    }

    private static void privateMembers() {
        Set<String> open = new TreeSet<>();
        Set<String> closed = new TreeSet<>();
        addMethods(ShotListPlanner.class, open, closed);
        for (Class<?> inner : ShotListPlanner.class.getDeclaredClasses()) {
            Checks.same("static " + inner, true, Modifier.isStatic(inner.getModifiers()));
            addMethods(inner, closed, closed);
        }
        closed.retainAll(open);
        Checks.same("private methods with public names", "[]", closed.toString());
        for (Field field : ShotListPlanner.class.getDeclaredFields()) {
            Checks.same("private " + field, !field.getName().equals("NONE"),
                    Modifier.isPrivate(field.getModifiers()));
        }
    }

    private static void addMethods(Class<?> of, Set<String> open, Set<String> closed) {
        for (Method method : of.getDeclaredMethods()) {
            boolean isPublic = Modifier.isPublic(method.getModifiers());
            boolean isPrivate = Modifier.isPrivate(method.getModifiers());
            (isPublic ? open : closed).add(method.getName());
            Checks.same("access of " + method, true,
                    isPublic || isPrivate || of != ShotListPlanner.class);
        }
    }

    private static void library(String text) {
        Checks.same("the only import", "[import java.util.NoSuchElementException;]",
                found(text, "import [^\n]*").toString());
        Set<String> calls = found(text, "(?:Math|Integer|Long|System|Arrays|List|String)\\.\\w+");
        calls.removeAll(Set.of("Math.abs", "Math.min", "Math.max", "Integer.bitCount",
                "System.arraycopy"));
        Checks.same("other calls of the library", "[]", calls.toString());
        Checks.same("what the language leaves out", "[]", found(text, "->|::|\\b(try|catch|finally"
                + "|synchronized|assert|float|Object|this\\.|super|instanceof|var|lambda)\\b")
                .toString());
        Set<String> objects = found(text, "new \\w+");
        objects.removeAll(Set.of("new int", "new Scene", "new Shot", "new Board", "new BoardReader",
                "new History", "new SetupTable", "new Route", "new Plan",
                "new IllegalStateException", "new IllegalArgumentException",
                "new NoSuchElementException"));
        Checks.same("other objects", "[]", objects.toString());
        Checks.same("signs above 127", "[]", found(text, "[^\\n -~]").toString());
        Checks.same("texts joined by +", "[]", found(text, "\" *\\+|\\+ *\"").toString());
    }

    private static Set<String> found(String text, String pattern) {
        Set<String> found = new TreeSet<>();
        Matcher matcher = Pattern.compile(pattern).matcher(text);
        while (matcher.find()) {
            found.add(matcher.group());
        }
        return found;
    }

    private static void fewClassesAndFields() {
        Class<?>[] inner = ShotListPlanner.class.getDeclaredClasses();
        Checks.same("at most twelve classes", true, inner.length < 12);
        for (Class<?> of : inner) {
            Checks.same("few fields in " + of, true, fields(of) <= 20);
        }
        Checks.same("few fields in the class", true, fields(ShotListPlanner.class) <= 20);
    }

    private static long fields(Class<?> of) {
        return Arrays.stream(of.getDeclaredFields())
                .filter(field -> !Modifier.isStatic(field.getModifiers())).count();
    }

    private static void shortMethods(String text) {
        String start = "";
        int lines = 0;
        for (String line : text.split("\n")) {
            lines++;
            if (line.matches(" {4}(| {4})[a-z].*[^;,]")) {
                start = line.trim();
                lines = 1;
            }
            if (line.matches(" {4}(| {4})\\}")) {
                Checks.same("short: " + start, true, lines <= 60 || start.contains("class "));
            }
        }
        for (Class<?> inner : ShotListPlanner.class.getDeclaredClasses()) {
            fewParameters(inner);
        }
        fewParameters(ShotListPlanner.class);
    }

    private static void fewParameters(Class<?> of) {
        for (Method method : of.getDeclaredMethods()) {
            Checks.same("few parameters of " + method, true, method.getParameterCount() <= 7);
        }
    }
}
