import java.io.IOException;
import java.lang.reflect.Method;
import java.lang.reflect.Modifier;
import java.net.URL;
import java.net.URLClassLoader;
import java.nio.file.Files;
import java.nio.file.Path;
import java.util.ArrayList;
import java.util.List;
import java.util.Set;
import java.util.TreeSet;
import java.util.regex.Matcher;
import java.util.regex.Pattern;
import java.util.stream.Stream;
import javax.tools.JavaCompiler;
import javax.tools.ToolProvider;

/** What README.md says is so: its examples compile and answer as it tells, its tests are there. */
public final class ReadmeTest {
    private static final Due DUE = new Due();
    private static final Pattern BLOCK = Pattern.compile("(?s)```java\\n(.*?)```");
    private static final Pattern ASKED = Pattern.compile("^x\\.(\\w+)\\((.*?)\\); +// (-?\\d+|NONE|true|false)\\b.*$");

    public static void main(String[] args) throws Exception {
        String page = Files.readString(Path.of("README.md"));
        examples(page);
        testsAreNamed(page);
        DUE.close("ReadmeTest");
    }

    /** Called from the examples. */
    public static void due(String call, int got, int want) {
        DUE.due("README: " + call, got, want);
    }

    public static void due(String call, boolean got, boolean want) {
        DUE.due("README: " + call, got, want);
    }

    private static void examples(String page) throws Exception {
        StringBuilder methods = new StringBuilder();
        StringBuilder run = new StringBuilder();
        Set<String> asked = new TreeSet<>();
        Matcher block = BLOCK.matcher(page);
        while (block.find()) {
            if (block.group(1).startsWith("static ")) {
                methods.append(block.group(1));
            } else {
                run.append(compared(block.group(1), asked));
            }
        }
        eachCallIsShown(page, asked);
        runIt("public final class Page {\nstatic final int NONE = RiverRanks.NONE;\n" + methods
            + "public static void run() {\n" + run + "}\n}\n");
    }

    /** A block's lines, each call with its answer told behind it turned into a comparison. */
    private static String compared(String block, Set<String> asked) {
        StringBuilder lines = new StringBuilder();
        for (String line : block.split("\n")) {
            Matcher m = ASKED.matcher(line);
            if (m.matches()) {
                asked.add(m.group(1));
                String call = "x." + m.group(1) + "(" + m.group(2) + ")";
                line = "ReadmeTest.due(\"" + call + "\", " + call + ", " + m.group(3) + ");";
            } else {
                DUE.due("an answer is told behind: " + line, line.startsWith("x."), false);
            }
            lines.append(line).append('\n');
        }
        return lines.toString();
    }

    private static void eachCallIsShown(String page, Set<String> asked) {
        for (Method m : RiverRanks.class.getDeclaredMethods()) {
            if (Modifier.isPublic(m.getModifiers())) {
                boolean shown = asked.contains(m.getName()) || page.contains("x." + m.getName() + "(");
                DUE.due("README shows " + m.getName(), shown, true);
            }
        }
    }

    private static void runIt(String source) throws Exception {
        Path folder = Files.createTempDirectory("readme");
        Path file = folder.resolve("Page.java");
        Files.writeString(file, source);
        JavaCompiler javac = ToolProvider.getSystemJavaCompiler();
        int compiled = javac.run(null, null, null, "-cp", System.getProperty("java.class.path"), "-d",
            folder.toString(), file.toString());
        DUE.due("README's examples compile", compiled, 0);
        if (compiled == 0) {
            try (URLClassLoader loader = new URLClassLoader(new URL[] {folder.toUri().toURL()})) {
                loader.loadClass("Page").getMethod("run").invoke(null);
            }
        }
        remove(folder);
    }

    private static void remove(Path folder) throws IOException {
        List<Path> files = new ArrayList<>();
        try (Stream<Path> inside = Files.list(folder)) {
            inside.forEach(files::add);
        }
        for (Path file : files) {
            Files.delete(file);
        }
        Files.delete(folder);
    }

    /** Each test there is has its name on the page, and each name on the page is that of a test. */
    private static void testsAreNamed(String page) throws IOException {
        Set<String> there = new TreeSet<>();
        try (Stream<Path> files = Files.list(Path.of("src/test/java"))) {
            files.map(f -> f.getFileName().toString()).filter(f -> f.endsWith("Test.java"))
                .forEach(f -> there.add(f.substring(0, f.length() - 5)));
        }
        Set<String> named = new TreeSet<>();
        Matcher m = Pattern.compile("\\b([A-Z]\\w*Test)\\b").matcher(page);
        while (m.find()) {
            named.add(m.group(1));
        }
        DUE.due("tests there are " + there + ", named " + named, there.equals(named), true);
    }
}
