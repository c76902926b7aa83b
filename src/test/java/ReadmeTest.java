import java.io.ByteArrayOutputStream;
import java.io.IOException;
import java.io.PrintStream;
import java.lang.reflect.Method;
import java.net.URL;
import java.net.URLClassLoader;
import java.nio.file.Files;
import java.nio.file.Path;
import java.util.ArrayList;
import java.util.List;
import java.util.TreeSet;
import java.util.regex.Matcher;
import java.util.regex.Pattern;
import java.util.stream.Stream;
import javax.tools.ToolProvider;

/** README.md tells what is so: its calls are made, its program is built and run, its rows are those of the face. */
public final class ReadmeTest {
    private static final String PROGRAM = "src/main/java/PloughMaze.java";
    private static final String TESTS = "src/test/java";
    /** The refusals that the document names, in their order, from promise 2 to promise 30; - for none. */
    private static final List<String> REFUSALS = List.of(
        "BAD NOT", "BAD NOT", "BAD NOT FULL", "BAD NOT", "BAD", "BAD", "BAD NONE", "BAD FULL", "FAULT", "FAULT", "BAD",
        "BAD NONE", "BAD", "BAD", "BAD NONE", "BAD NONE", "BAD NONE",
        "-", "BAD NONE", "BAD", "BAD", "BAD NONE", "-", "NONE",
        "BAD NULL CAST INDEX NOT", "BAD SIZE", "BAD NULL", "BAD NULL CAST INDEX", "BAD NULL CAST INDEX");

    private static int passed = 0;
    private static int failed = 0;

    private static void check(String what, boolean holds) {
        if (holds) {
            passed++;
        } else {
            failed++;
            System.out.println("FAILED readme: " + what);
        }
    }

    /** The texts between ``` of a kind and ```. */
    private static List<String> blocks(String page, String kind) {
        List<String> found = new ArrayList<>();
        Matcher block = Pattern.compile("(?ms)^```" + kind + "\n(.*?)^```$").matcher(page);
        while (block.find()) {
            found.add(block.group(1));
        }
        return found;
    }

    // ---- calls with their answers

    private static void calls(String page) throws ReflectiveOperationException {
        TreeSet<String> shown = new TreeSet<>();
        Pattern line = Pattern.compile("x\\.(\\w+)\\((.*)\\); +// (-?\\d+)(?: .*)?");
        for (String block : blocks(page, "java")) {
            if (block.contains("class ")) {
                continue;
            }
            PloughMaze x = new PloughMaze();
            String[] lines = block.split("\n");
            check("a row of calls begins with a new object: " + lines[0], lines[0].equals("PloughMaze x = new PloughMaze();"));
            for (int i = 1; i < lines.length; i++) {
                Matcher call = line.matcher(lines[i]);
                boolean isCall = call.matches();
                check("a call with its answer: " + lines[i], isCall);
                if (isCall) {
                    int got = answer(x, call.group(1), call.group(2));
                    check(lines[i] + " answered " + got, got == Integer.parseInt(call.group(3)));
                    shown.add(call.group(1));
                }
            }
        }
        for (String call : RulesTest.FACE) {
            check(call + " is shown", shown.contains(call.substring(0, call.indexOf('('))));
        }
    }

    private static int answer(PloughMaze x, String name, String given) throws ReflectiveOperationException {
        String[] texts = given.isEmpty() ? new String[0] : given.split(", ");
        for (Method method : PloughMaze.class.getMethods()) {
            if (method.getName().equals(name) && method.getParameterCount() == texts.length) {
                Object[] values = new Object[texts.length];
                for (int i = 0; i < texts.length; i++) {
                    values[i] = value(method.getParameterTypes()[i], texts[i]);
                }
                return (Integer) method.invoke(x, values);
            }
        }
        check("there is a call " + name + " of " + texts.length, false);
        return Integer.MIN_VALUE;
    }

    private static Object value(Class<?> type, String text) {
        if (type == boolean.class) {
            return text.equals("true");
        }
        long number = Long.decode(text.endsWith("L") ? text.substring(0, text.length() - 1) : text);
        return type == long.class ? (Object) number : (Object) (int) number;
    }

    /** What is written behind a typed word is what was typed. */
    private static void typedTexts(String page) {
        Matcher typed = Pattern.compile("x\\.type\\(0x([0-9a-f]+)L, (\\d)\\); +// \\d+ +(.+)").matcher(page);
        int found = 0;
        while (typed.find()) {
            found++;
            StringBuilder text = new StringBuilder();
            for (int i = 0; i < typed.group(1).length(); i += 2) {
                text.append((char) Integer.parseInt(typed.group(1).substring(i, i + 2), 16));
            }
            check(typed.group() + " types " + text, typed.group(3).equals(text.toString())
                && text.length() == Integer.parseInt(typed.group(2)));
        }
        check("typed texts are shown", found > 2);
    }

    // ---- the program

    private static void program(String page) throws IOException, ReflectiveOperationException {
        String source = blocks(page, "java").get(0);
        check("the example is a program", source.contains("public static void main(String[] args)"));
        check("it is told how to build it", page.contains("\n    javac -d out " + PROGRAM + " Example.java\n    java -cp out Example\n"));
        Path folder = Files.createTempDirectory("readme");
        Path file = folder.resolve("Example.java");
        Files.writeString(file, source);
        int built = ToolProvider.getSystemJavaCompiler().run(null, null, null, "-d", folder.toString(), PROGRAM, file.toString());
        check("the example is built", built == 0);
        if (built == 0) {
            String printed = run(folder);
            check("the example prints what the page says: " + printed, blocks(page, "text").get(0).equals(printed));
        }
        try (Stream<Path> files = Files.list(folder)) {
            for (Path made : files.toList()) {
                Files.delete(made);
            }
        }
        Files.delete(folder);
    }

    private static String run(Path folder) throws IOException, ReflectiveOperationException {
        PrintStream before = System.out;
        ByteArrayOutputStream printed = new ByteArrayOutputStream();
        try (URLClassLoader loader = new URLClassLoader(new URL[] {folder.toUri().toURL()}, null)) {
            System.setOut(new PrintStream(printed, true));
            loader.loadClass("Example").getMethod("main", String[].class).invoke(null, (Object) new String[0]);
        } finally {
            System.setOut(before);
        }
        return printed.toString().replace(System.lineSeparator(), "\n");
    }

    // ---- rows

    private static void rows(String page) {
        check("a new object is told", page.contains("`new PloughMaze()` makes an object") && page.contains("(promise 1)"));
        Matcher row = Pattern.compile("(?m)^\\| (\\d+) \\| `([^`]+)` \\| ([^|]+) \\| ([^|]+) \\|$").matcher(page);
        int promise = 1;
        while (row.find()) {
            promise++;
            check("row of promise " + promise + ": " + row.group(1), row.group(1).equals(promise + ""));
            boolean isThere = promise - 2 < RulesTest.FACE.size();
            check(row.group(2) + " is a call of the face", isThere && row.group(2).equals(RulesTest.FACE.get(promise - 2)));
            check(row.group(2) + " is refused as " + row.group(4), isThere && refusals(row.group(4)).equals(REFUSALS.get(promise - 2)));
        }
        check("a row for each of promises 2 to 30, not " + promise, promise == 30);
        for (String constant : RulesTest.CONSTANTS) {
            check("a row for " + constant, page.contains("\n| `PloughMaze." + constant.replace(" ", "` | ") + " | "));
        }
    }

    private static String refusals(String told) {
        Matcher word = Pattern.compile("\\b(BAD|NOT|FULL|NONE|NULL|CAST|INDEX|SIZE|FAULT)\\b").matcher(told);
        StringBuilder words = new StringBuilder(told.equals("none") ? " -" : "");
        while (word.find()) {
            words.append(' ').append(word.group());
        }
        return words.isEmpty() ? "" : words.substring(1);
    }

    // ---- files

    private static void files(String page) throws IOException {
        Matcher named = Pattern.compile("`((?:src|\\.ci)/[\\w./]+|[A-Z]+\\.md)`").matcher(page);
        while (named.find()) {
            check(named.group(1) + " is there", Files.exists(Path.of(named.group(1))));
        }
        try (Stream<Path> tests = Files.list(Path.of(TESTS))) {
            for (Path test : tests.toList()) {
                check(test + " is named", page.contains("`" + TESTS + "/" + test.getFileName() + "`"));
            }
        }
        check("it is told how to run the tests", page.contains("## How to run its tests\n\n    .ci/run\n"));
        check("it is told where the promises stand", page.contains("## Where the promises stand\n") && page.contains("`../shared/DOC.md`"));
    }

    public static void main(String[] args) throws IOException, ReflectiveOperationException {
        String page = Files.readString(Path.of(args.length > 0 ? args[0] : "README.md"));
        calls(page);
        typedTexts(page);
        program(page);
        rows(page);
        files(page);
        System.out.println("ReadmeTest: " + passed + " passed, " + failed + " failed");
        if (failed > 0) {
            System.exit(1);
        }
    }
}
