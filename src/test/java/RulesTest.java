import java.io.IOException;
import java.lang.reflect.Constructor;
import java.lang.reflect.Field;
import java.lang.reflect.Method;
import java.lang.reflect.Modifier;
import java.nio.file.Files;
import java.nio.file.Path;
import java.util.List;
import java.util.StringJoiner;
import java.util.TreeSet;
import java.util.regex.Matcher;
import java.util.regex.Pattern;

/** What of LANGUAGE.md can be seen from outside: the face, and words that may not stand in the source. */
public final class RulesTest {
    /** The calls as the document's face has them: the first is that of promise 2, the last that of promise 30. */
    static final List<String> FACE = List.of(
        "plough(int square)", "back(int n)", "deer(int square, int side)", "shut(int square, int side, boolean is)",
        "straw(int square, boolean is)", "set(int what, int v)", "told(int square, int what)", "type(long w, int n)",
        "furrow()", "seen()", "count(int what)", "walk(int kind, int square, int side)",
        "at(int kind, int square, int side, int steps)", "worst(int kind, int side, int what)", "far(int square)",
        "roped(int square)", "two(int kind, int square, int other, int square2, int side)", "parts()",
        "shutting(int what)", "days(int n)", "bell(int square)", "fit(int square, int many, int k)", "image()",
        "restore()", "go(int sheet, int lane, int from, int n)", "sheet(int sheet, int lane, int n)",
        "drop(int sheet)", "item(int sheet, int lane, int i, int v)", "film(int sheet, int lane, int from)");
    static final List<String> CONSTANTS = List.of(
        "BAD -1", "NOT -2", "FULL -3", "NONE -4", "NULL -11", "CAST -12", "INDEX -13", "SIZE -14");
    private static final List<String> FORBIDDEN = List.of("throw", "throws", "try", "catch", "finally", "synchronized", "assert",
        "import", "package", "native", "volatile", "transient", "hashCode", "toString", "Thread", "Random",
        "currentTimeMillis", "nanoTime", "Object", "Exception", "yield", "var", "double", "float");
    private static final int MOST_LINES = 60;

    private static int passed = 0;
    private static int failed = 0;

    private static void check(String what, boolean holds) {
        if (holds) {
            passed++;
        } else {
            failed++;
            System.out.println("FAILED rule: " + what);
        }
    }

    private static void face() throws IllegalAccessException {
        check("the class is public and final, and of no other kind",
            PloughMaze.class.getModifiers() == (Modifier.PUBLIC | Modifier.FINAL));
        check("it stands without a package", PloughMaze.class.getPackageName().isEmpty());
        check("it is nobody's heir",
            PloughMaze.class.getSuperclass() == Object.class && PloughMaze.class.getInterfaces().length == 0);
        Constructor<?>[] makers = PloughMaze.class.getDeclaredConstructors();
        check("one constructor, public, that takes nothing", makers.length == 1
            && makers[0].getModifiers() == Modifier.PUBLIC && makers[0].getParameterCount() == 0);
        TreeSet<String> publicNames = new TreeSet<>();
        TreeSet<String> privateNames = new TreeSet<>();
        TreeSet<String> calls = new TreeSet<>();
        for (Method method : PloughMaze.class.getDeclaredMethods()) {
            boolean isPublic = Modifier.isPublic(method.getModifiers());
            check(method + " is public or private", isPublic || Modifier.isPrivate(method.getModifiers()));
            (isPublic ? publicNames : privateNames).add(method.getName());
            if (isPublic) {
                check(method + " answers an int and is not static",
                    method.getReturnType() == int.class && method.getModifiers() == Modifier.PUBLIC);
                calls.add(typesOf(method));
            }
        }
        TreeSet<String> told = new TreeSet<>();
        for (String call : FACE) {
            told.add(call.replaceAll(" \\w+([,)])", "$1"));
        }
        check("the calls are those of the face: " + calls, calls.equals(told));
        constants();
        inside(privateNames);
        privateNames.retainAll(publicNames);
        check("names of the face elsewhere " + privateNames, privateNames.isEmpty());
    }

    private static String typesOf(Method method) {
        StringJoiner types = new StringJoiner(", ", method.getName() + "(", ")");
        for (Class<?> type : method.getParameterTypes()) {
            types.add(type.getName());
        }
        return types.toString();
    }

    private static void constants() throws IllegalAccessException {
        TreeSet<String> constants = new TreeSet<>();
        for (Field field : PloughMaze.class.getDeclaredFields()) {
            int is = field.getModifiers();
            check(field + " is public or private", Modifier.isPublic(is) || Modifier.isPrivate(is));
            check(field + " is final, if static", !Modifier.isStatic(is) || Modifier.isFinal(is));
            if (Modifier.isPublic(is)) {
                check(field + " is a constant of int", Modifier.isStatic(is) && field.getType() == int.class);
                constants.add(field.getName() + " " + field.get(null));
            }
        }
        check("the constants " + constants, constants.equals(new TreeSet<>(CONSTANTS)));
    }

    private static void inside(TreeSet<String> names) {
        for (Class<?> inside : PloughMaze.class.getDeclaredClasses()) {
            check(inside + " is static", Modifier.isStatic(inside.getModifiers()));
            check(inside + " is not public", (inside.getModifiers() & (Modifier.PUBLIC | Modifier.PROTECTED)) == 0);
            for (Method method : inside.getDeclaredMethods()) {
                names.add(method.getName());
            }
        }
        check("at most twelve classes", PloughMaze.class.getDeclaredClasses().length < 12);
    }

    private static void words(String source) {
        String code = source.replaceAll("(?s)/\\*.*?\\*/", "").replaceAll("//[^\n]*", "");
        for (String word : FORBIDDEN) {
            check("no " + word, !Pattern.compile("\\b" + word + "\\b").matcher(code).find());
        }
        check("no lambda, no method reference", !code.contains("->") && !code.contains("::"));
        check("of System arraycopy alone", !code.replace("System.arraycopy", "").contains("System"));
        check("plain signs", source.chars().allMatch(c -> c == '\n' || c >= 32 && c < 127));
    }

    private static void methodLengths(String source) {
        Matcher method = Pattern.compile("(?m)^( {4}| {8})(?:[a-z]+ )*[A-Za-z\\[\\]]+ (\\w+)\\(([^)]*)\\) \\{\n(?s:(.*?))\n\\1\\}\n").matcher(source);
        int found = 0;
        while (method.find()) {
            found++;
            check(method.group(2) + " is short", method.group(4).split("\n").length <= MOST_LINES);
            check(method.group(2) + " takes few", method.group(3).split(",").length <= 7);
        }
        check("methods found", found > 29);
    }

    public static void main(String[] args) throws IOException, IllegalAccessException {
        String source = Files.readString(Path.of(args.length > 0 ? args[0] : "src/main/java/PloughMaze.java"));
        face();
        words(source);
        methodLengths(source);
        System.out.println("RulesTest: " + passed + " passed, " + failed + " failed");
        if (failed > 0) {
            System.exit(1);
        }
    }
}
