import java.io.IOException;
import java.lang.reflect.Field;
import java.lang.reflect.InvocationTargetException;
import java.lang.reflect.Method;
import java.lang.reflect.Modifier;
import java.net.URL;
import java.net.URLClassLoader;
import java.nio.file.Files;
import java.nio.file.Path;
import java.util.regex.Matcher;
import java.util.regex.Pattern;
import java.util.stream.Collectors;
import java.util.stream.Stream;

/**
 * Runs the Java that stands in README.md, block by block: the number or the constant in the comment behind a call is the
 * answer that is due. The blocks are compiled as they stand there, so that a reader may copy them.
 */
public final class ReadmeTests {
    private static final Pattern BLOCK = Pattern.compile("(?ms)^```java\n(.*?)^```");
    private static final Pattern ANSWERED = Pattern.compile("(?m)^forest\\.(.*\\)); *// (-?\\d+|WeightedForest\\.[A-Z_]+)");

    private static int calls = 0;
    private static int wrong = 0;

    public static void main(String[] args) throws Exception {
        Path project = Path.of(System.getProperty("project", "."));
        String page = Files.readString(project.resolve("README.md"));
        checkFace(page);
        checkTests(page, project.resolve("src/test/java"));
        runBlocks(page);
        System.out.println(calls + " calls of the page, " + wrong + " faults");
        if (wrong != 0) {
            System.exit(1);
        }
    }

    /** The blocks call this, from a class loader of their own. */
    public static void due(String call, long got, long want) {
        calls++;
        check(got == want, call + " answered " + got + ", the page tells " + want);
    }

    private static void checkFace(String page) throws IllegalAccessException {
        for (Method method : WeightedForest.class.getDeclaredMethods()) {
            if (Modifier.isPublic(method.getModifiers())) {
                check(page.contains("`" + method.getName() + "`"), "the page does not name " + method.getName());
            }
        }
        for (Field field : WeightedForest.class.getFields()) {
            String row = "| `" + field.getName() + "` | " + field.getInt(null) + " |";
            check(page.contains(row), "the page has no row " + row);
        }
    }

    private static void checkTests(String page, Path folder) throws IOException {
        try (Stream<Path> tests = Files.list(folder)) {
            for (Path test : tests.collect(Collectors.toList())) {
                String name = test.getFileName().toString().replace(".java", "");
                check(page.contains("- `" + name + "`: "), "the page does not tell what " + name + " tests");
            }
        }
    }

    private static void runBlocks(String page) throws Exception {
        StringBuilder source = new StringBuilder("public final class ReadmeBlocks {\n");
        Matcher block = BLOCK.matcher(page);
        int blocks = 0;
        while (block.find()) {
            blocks++;
            source.append("public static void block").append(blocks).append("() {\n").append(asTest(block.group(1))).append("}\n");
        }
        check(blocks >= 6, "only " + blocks + " blocks of Java stand on the page");
        Path folder = Files.createTempDirectory("readme");
        Path file = Files.writeString(folder.resolve("ReadmeBlocks.java"), source.append("}\n"));
        try {
            compileAndRun(folder, file, blocks);
        } finally {
            Files.deleteIfExists(folder.resolve("ReadmeBlocks.class"));
            Files.delete(file);
            Files.delete(folder);
        }
    }

    private static void compileAndRun(Path folder, Path file, int blocks) throws Exception {
        String path = System.getProperty("java.class.path");
        Process compiler = new ProcessBuilder("javac", "-cp", path, "-d", folder.toString(), file.toString()).inheritIO().start();
        if (compiler.waitFor() != 0) {
            check(false, "the page's Java is not compiled");
            return;
        }
        try (URLClassLoader loader = new URLClassLoader(new URL[] {folder.toUri().toURL()})) {
            Class<?> made = loader.loadClass("ReadmeBlocks");
            for (int i = 1; i <= blocks; i++) {
                runBlock(made.getMethod("block" + i));
            }
        }
    }

    /** The block, with each call whose answer the page tells handed to due(..). */
    private static String asTest(String block) {
        check(block.startsWith("WeightedForest forest = new WeightedForest();\n"), "a block has no object of its own: " + block);
        long told = block.lines().filter(line -> line.contains("//")).count();
        check(told == ANSWERED.matcher(block).results().count(), "a comment tells no answer in " + block);
        return ANSWERED.matcher(block).replaceAll(found -> {
            String call = found.group(1);
            String answer = found.group(2).startsWith("W") ? found.group(2) : found.group(2) + "L";
            return Matcher.quoteReplacement("ReadmeTests.due(\"" + call + "\", forest." + call + ", " + answer + "); //");
        });
    }

    private static void runBlock(Method block) throws IllegalAccessException {
        try {
            block.invoke(null);
        } catch (InvocationTargetException e) {
            check(false, block.getName() + " threw " + e.getCause());
        }
    }

    private static void check(boolean kept, String fault) {
        if (!kept) {
            wrong++;
            System.out.println(fault);
        }
    }
}
