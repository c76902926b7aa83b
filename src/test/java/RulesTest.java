import java.io.IOException;
import java.lang.reflect.Field;
import java.lang.reflect.Method;
import java.lang.reflect.Modifier;
import java.nio.file.Files;
import java.nio.file.Path;
import java.util.List;
import java.util.TreeSet;
import java.util.regex.Matcher;
import java.util.regex.Pattern;

/** What of LANGUAGE.md can be seen from outside: the face, and words that may not stand in the source. */
public final class RulesTest {
    private static final String FACE = "at back bell count days deer drop far film fit furrow go image item parts plough "
        + "restore roped seen set sheet shut shutting straw told two type walk worst";
    private static final String CONSTANTS = "BAD CAST FULL INDEX NONE NOT NULL SIZE";
    private static final List<String> FORBIDDEN = List.of("throw", "throws", "try", "catch", "finally", "synchronized", "assert",
        "import", "package", "native", "volatile", "transient", "hashCode", "toString", "Thread", "Random",
        "currentTimeMillis", "nanoTime", "Object", "Exception", "yield", "var", "double", "float");
    private static final int MOST_LINES = 60;

    private static int passed = 0;
    private static int failed = 0;

    private static void check(String what, boolean holds) {
        if (holds) {
            passed++;
        } else {
            failed++;
            System.out.println("FAILED rule: " + what);
        }
    }

    private static void face() {
        TreeSet<String> publicNames = new TreeSet<>();
        TreeSet<String> privateNames = new TreeSet<>();
        for (Method method : PloughMaze.class.getDeclaredMethods()) {
            boolean isPublic = Modifier.isPublic(method.getModifiers());
            check(method + " is public or private", isPublic || Modifier.isPrivate(method.getModifiers()));
            (isPublic ? publicNames : privateNames).add(method.getName());
        }
        check("the face " + publicNames, String.join(" ", publicNames).equals(FACE));
        TreeSet<String> constants = new TreeSet<>();
        for (Field field : PloughMaze.class.getDeclaredFields()) {
            int is = field.getModifiers();
            check(field + " is public or private", Modifier.isPublic(is) || Modifier.isPrivate(is));
            check(field + " is final, if static", !Modifier.isStatic(is) || Modifier.isFinal(is));
            if (Modifier.isPublic(is)) {
                constants.add(field.getName());
            }
        }
        check("the constants " + constants, String.join(" ", constants).equals(CONSTANTS));
        for (Class<?> inside : PloughMaze.class.getDeclaredClasses()) {
            check(inside + " is static", Modifier.isStatic(inside.getModifiers()));
            for (Method method : inside.getDeclaredMethods()) {
                privateNames.add(method.getName());
            }
        }
        privateNames.retainAll(publicNames);
        check("names of the face elsewhere " + privateNames, privateNames.isEmpty());
        check("at most twelve classes", PloughMaze.class.getDeclaredClasses().length < 12);
    }

    private static void words(String source) {
        String code = source.replaceAll("(?s)/\\*.*?\\*/", "").replaceAll("//[^\n]*", "");
        for (String word : FORBIDDEN) {
            check("no " + word, !Pattern.compile("\\b" + word + "\\b").matcher(code).find());
        }
        check("no lambda, no method reference", !code.contains("->") && !code.contains("::"));
        check("of System arraycopy alone", !code.replace("System.arraycopy", "").contains("System"));
        check("plain signs", source.chars().allMatch(c -> c == '\n' || c >= 32 && c < 127));
    }

    private static void methodLengths(String source) {
        Matcher method = Pattern.compile("(?m)^( {4}| {8})(?:[a-z]+ )*[A-Za-z\\[\\]]+ (\\w+)\\(([^)]*)\\) \\{\n(?s:(.*?))\n\\1\\}\n").matcher(source);
        int found = 0;
        while (method.find()) {
            found++;
            check(method.group(2) + " is short", method.group(4).split("\n").length <= MOST_LINES);
            check(method.group(2) + " takes few", method.group(3).split(",").length <= 7);
        }
        check("methods found", found > 29);
    }

    public static void main(String[] args) throws IOException {
        String source = Files.readString(Path.of(args.length > 0 ? args[0] : "src/main/java/PloughMaze.java"));
        face();
        words(source);
        methodLengths(source);
        System.out.println("RulesTest: " + passed + " passed, " + failed + " failed");
        if (failed > 0) {
            System.exit(1);
        }
    }
}
