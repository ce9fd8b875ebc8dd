import java.io.IOException;
import java.lang.reflect.Method;
import java.lang.reflect.Modifier;
import java.net.URL;
import java.net.URLClassLoader;
import java.nio.charset.StandardCharsets;
import java.nio.file.Files;
import java.nio.file.Path;
import java.util.ArrayList;
import java.util.Comparator;
import java.util.List;
import java.util.Set;
import java.util.TreeSet;
import java.util.regex.Matcher;
import java.util.regex.Pattern;
import java.util.stream.Stream;
import javax.tools.JavaCompiler;
import javax.tools.ToolProvider;

/**
 * README.md says what holds: its blocks of Java are compiled as they stand, and each call in them answers what stands
 * behind it. Every public method is shown there, and its table of tests has just those that there are.
 */
public final class ReadmeTest {
    private static final Pattern BLOCK = Pattern.compile("(?ms)^```java\n(.*?)^```$");
    private static final Pattern SHOWN = Pattern.compile("(x\\.(\\w+)\\(.*\\));\\s+// (-?\\d+|true|false|NONE|STRANGE): \\S.*");
    private static final Pattern NO_CALL = Pattern.compile("RowWalks x = new RowWalks\\(\\);|tell\\(x, \".*\"\\);");
    private static final Pattern ROW = Pattern.compile("(?m)^\\| (\\w+Test) \\|");

    private static int answers = 0;
    private static int wrong = 0;

    private ReadmeTest() {
    }

    private static void say(String what) {
        wrong++;
        System.out.println("README.md: " + what);
    }

    /** Called by the compiled blocks, so it is public. */
    public static void due(String call, long got, long want) {
        answers++;
        if (got != want) {
            say(call + " answered " + got + ", shown is " + want);
        }
    }

    public static void due(String call, boolean got, boolean want) {
        answers++;
        if (got != want) {
            say(call + " answered " + got + ", shown is " + want);
        }
    }

    /** Blocks of functions stay as they are, all others become one run. */
    private static String sourceOf(String readme, Set<String> shown) {
        StringBuilder functions = new StringBuilder();
        StringBuilder run = new StringBuilder();
        Matcher block = BLOCK.matcher(readme);
        while (block.find()) {
            if (block.group(1).startsWith("static ")) {
                functions.append(block.group(1));
                continue;
            }
            for (String line : block.group(1).split("\n")) {
                run.append(compared(line, shown)).append('\n');
            }
        }
        return "public final class ReadmeBlocks {\n" + functions
            + "public static void run() {\nfinal int NONE = RowWalks.NONE;\nfinal int STRANGE = RowWalks.STRANGE;\n" + run + "}\n}\n";
    }

    private static String compared(String line, Set<String> shown) {
        Matcher m = SHOWN.matcher(line);
        if (m.matches()) {
            shown.add(m.group(2));
            return "ReadmeTest.due(\"" + m.group(1) + "\", " + m.group(1) + ", " + m.group(3) + ");";
        }
        if (!NO_CALL.matcher(line).matches()) {
            say("no call with its answer: " + line);
        }
        return line;
    }

    private static void run(String source) throws IOException, ReflectiveOperationException {
        JavaCompiler javac = ToolProvider.getSystemJavaCompiler();
        if (javac == null) {
            say("there is no compiler for its blocks");
            return;
        }
        Path made = Files.createTempDirectory("readme");
        try {
            Path file = Files.writeString(made.resolve("ReadmeBlocks.java"), source, StandardCharsets.UTF_8);
            String with = System.getProperty("java.class.path");
            if (javac.run(null, null, null, "-cp", with, "-d", made.toString(), file.toString()) != 0) {
                say("its blocks do not compile");
                return;
            }
            try (URLClassLoader loader = new URLClassLoader(new URL[] {made.toUri().toURL()}, ReadmeTest.class.getClassLoader())) {
                loader.loadClass("ReadmeBlocks").getMethod("run").invoke(null);
            }
        } finally {
            remove(made);
        }
    }

    private static void remove(Path directory) throws IOException {
        List<Path> all = new ArrayList<>();
        try (Stream<Path> inside = Files.walk(directory)) {
            inside.sorted(Comparator.reverseOrder()).forEach(all::add);
        }
        for (Path one : all) {
            Files.delete(one);
        }
    }

    private static void lookAtShown(Set<String> shown) {
        for (Method m : RowWalks.class.getDeclaredMethods()) {
            if (Modifier.isPublic(m.getModifiers()) && !shown.contains(m.getName())) {
                say(m.getName() + " is not shown");
            }
        }
    }

    private static void lookAtTable(String readme) throws IOException {
        Set<String> told = new TreeSet<>();
        Matcher row = ROW.matcher(readme);
        while (row.find()) {
            told.add(row.group(1));
        }
        Set<String> there = new TreeSet<>();
        try (Stream<Path> files = Files.list(Path.of("src/test/java"))) {
            files.map(file -> file.getFileName().toString()).filter(name -> name.endsWith("Test.java"))
                .forEach(name -> there.add(name.substring(0, name.length() - 5)));
        }
        if (!told.equals(there)) {
            say("the tests in its table are " + told + ", there are " + there);
        }
    }

    public static void main(String[] args) throws IOException, ReflectiveOperationException {
        String readme = Files.readString(Path.of("README.md"), StandardCharsets.UTF_8);
        Set<String> shown = new TreeSet<>();
        run(sourceOf(readme, shown));
        lookAtShown(shown);
        lookAtTable(readme);
        System.out.println(answers + " answers shown in README.md, " + wrong + " wrong");
        if (wrong != 0 || answers == 0) {
            System.exit(1);
        }
    }
}
