import java.lang.reflect.InvocationTargetException;
import java.net.URL;
import java.net.URLClassLoader;
import java.nio.file.Files;
import java.nio.file.Path;
import java.util.ArrayList;
import java.util.List;
import java.util.regex.Matcher;
import java.util.regex.Pattern;
import javax.tools.ToolProvider;

/** README.md: each step that it shows answers as it says, and each test of the project is told of. */
public final class ReadmeTest {
    private static final Checks CHECKS = new Checks("ReadmeTest");
    private static final Pattern BLOCK = Pattern.compile("(?s)```java\n(.*?)```");
    /** A call on its own line, with its answer behind //, told up to a colon. */
    private static final Pattern STEP = Pattern.compile("((desk|other)\\.\\w+\\([^;]*\\)); *// ([^:]+)(: .*)?");
    private static final Pattern FEED = Pattern.compile("desk\\.feed\\((.*)\\); .*\"(.*)\".*");

    public static void main(String[] args) throws Exception {
        String readme = Files.readString(Path.of("README.md"));
        testsAreNamed(readme);
        List<String> blocks = blocksOf(readme);
        CHECKS.same("blocks of Java", blocks.size(), 2);
        if (blocks.size() == 2) {
            bytesOfFeeds(blocks.get(1));
            steps(blocks.get(0), blocks.get(1));
        }
        CHECKS.finish();
    }

    private static List<String> blocksOf(String readme) {
        List<String> blocks = new ArrayList<>();
        Matcher matcher = BLOCK.matcher(readme);
        while (matcher.find()) {
            blocks.add(matcher.group(1));
        }
        return blocks;
    }

    private static void testsAreNamed(String readme) throws Exception {
        try (var files = Files.list(Path.of("src/test/java"))) {
            for (Path file : (Iterable<Path>) files.sorted()::iterator) {
                String name = file.getFileName().toString().replace(".java", "");
                if (name.endsWith("Test")) {
                    CHECKS.same("README.md tells of " + name, readme.contains("`" + name + "`"), true);
                }
            }
        }
    }

    private static void bytesOfFeeds(String steps) {
        for (String line : steps.split("\n")) {
            Matcher matcher = FEED.matcher(line);
            if (matcher.matches()) {
                StringBuilder text = new StringBuilder();
                for (String number : matcher.group(1).split(", ")) {
                    int four = Long.decode(number).intValue();
                    for (int shift = 24; shift >= 0; shift -= 8) {
                        text.append((char) (four >>> shift & 255));
                    }
                }
                CHECKS.same("the text of " + line, text.toString(), matcher.group(2));
            }
        }
    }

    /** The steps as a program that tells by its answers which are wrong. */
    private static void steps(String functions, String steps) throws Exception {
        StringBuilder source = new StringBuilder("public final class Steps {\n" + functions);
        source.append("static Object[] one(String step, Object got, Object due) { return new Object[] {step, got, due}; }\n");
        source.append("public static Object[][] all() {\njava.util.List<Object[]> told = new java.util.ArrayList<>();\n");
        int count = 0;
        for (String line : steps.split("\n")) {
            Matcher matcher = STEP.matcher(line);
            boolean isStep = matcher.matches();
            CHECKS.same("an answer is told of " + line, isStep, line.matches("(desk|other)\\..*"));
            if (isStep) {
                count++;
                String quoted = matcher.group(1).replace("\"", "\\\"");
                source.append("told.add(one(\"").append(count).append(". ").append(quoted).append("\", ").append(matcher.group(1))
                    .append(", ").append(matcher.group(3)).append("));\n");
            } else {
                source.append(line).append('\n');
            }
        }
        source.append("return told.toArray(new Object[0][]);\n}\n}\n");
        Object[][] told = done(source.toString());
        CHECKS.same("steps done", told.length, count);
        CHECKS.same("there are many steps", count > 30, true);
        for (Object[] one : told) {
            CHECKS.same("step " + one[0], one[1].toString(), one[2].toString());
        }
    }

    private static Object[][] done(String source) throws Exception {
        Path folder = Files.createTempDirectory("readme");
        Path file = folder.resolve("Steps.java");
        Path compiled = folder.resolve("Steps.class");
        try {
            Files.writeString(file, source);
            int failed = ToolProvider.getSystemJavaCompiler().run(null, null, null,
                "-cp", System.getProperty("java.class.path"), "-d", folder.toString(), file.toString());
            CHECKS.same("the steps compile", failed, 0);
            if (failed != 0) {
                return new Object[0][];
            }
            try (URLClassLoader loader = new URLClassLoader(new URL[] {folder.toUri().toURL()})) {
                return (Object[][]) loader.loadClass("Steps").getMethod("all").invoke(null);
            } catch (InvocationTargetException thrown) {
                CHECKS.same("the steps end", thrown.getCause().toString(), "well");
                return new Object[0][];
            }
        } finally {
            Files.deleteIfExists(file);
            Files.deleteIfExists(compiled);
            Files.deleteIfExists(folder);
        }
    }
}
