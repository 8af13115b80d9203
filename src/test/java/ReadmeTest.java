import java.io.File;
import java.lang.reflect.InvocationTargetException;
import java.net.URL;
import java.net.URLClassLoader;
import java.nio.file.Files;
import java.nio.file.Path;
import java.util.regex.Matcher;
import java.util.regex.Pattern;
import javax.tools.ToolProvider;

/** What README.md shows: its java blocks are compiled and run, a call's answer is what stands behind it. */
public final class ReadmeTest {
    private static final Pattern ASKED = Pattern.compile("(.*);\\s*// (throws \\w+|true|false|-?\\d+)(:.*)?");
    private static int asked = 0;
    private static int wrong = 0;

    public interface Call {
        Object answer();
    }

    private ReadmeTest() {
    }

    /** What the compiled blocks call for each line that tells an answer. */
    public static void due(String line, Call call, String want) {
        asked++;
        String got;
        try {
            got = String.valueOf(call.answer());
        } catch (RuntimeException e) {
            got = "throws " + e.getClass().getSimpleName();
        }
        if (!got.equals(want)) {
            blame(line + " answers " + got);
        }
    }

    private static void blame(String what) {
        wrong++;
        System.out.println("ReadmeTest: " + what);
    }

    public static void main(String[] args) throws Throwable {
        String page = Files.readString(Path.of("README.md"));
        run(program(page));
        calls(page);
        tests(page);
        System.out.println("ReadmeTest: " + asked + " asked, " + wrong + " wrong");
        if (wrong != 0 || asked == 0) {
            System.exit(1);
        }
    }

    private static String blocks(String page) {
        StringBuilder all = new StringBuilder();
        Matcher m = Pattern.compile("(?s)```java\\n(.*?)```").matcher(page);
        while (m.find()) {
            all.append(m.group(1));
        }
        return all.toString();
    }

    /** A class of the blocks: methods as they are, all else one after the other in its main. */
    private static String program(String page) {
        StringBuilder members = new StringBuilder();
        StringBuilder body = new StringBuilder();
        boolean inMethod = false;
        for (String line : blocks(page).split("\n")) {
            inMethod |= line.startsWith("static ");
            Matcher m = ASKED.matcher(line);
            if (inMethod) {
                members.append(line).append('\n');
                inMethod = !line.equals("}");
            } else if (m.matches()) {
                String quoted = line.replace("\\", "\\\\").replace("\"", "\\\"");
                body.append("ReadmeTest.due(\"").append(quoted).append("\", () -> ").append(m.group(1)).append(", \"")
                        .append(m.group(2)).append("\");\n");
            } else {
                body.append(line).append('\n');
            }
        }
        return "public final class ReadmeRun {\n" + members + "public static void run() {\n" + body + "}\n}\n";
    }

    private static void run(String program) throws Throwable {
        Path dir = Files.createTempDirectory("readme");
        Path file = dir.resolve("ReadmeRun.java");
        Path compiled = dir.resolve("ReadmeRun.class");
        try {
            Files.writeString(file, program);
            String path = System.getProperty("java.class.path");
            int bad = ToolProvider.getSystemJavaCompiler().run(null, null, null, "-cp", path, "-d", dir.toString(), file.toString());
            if (bad != 0) {
                blame("the examples aren't Java:\n" + program);
                return;
            }
            try (URLClassLoader loader = new URLClassLoader(new URL[] {dir.toUri().toURL()})) {
                loader.loadClass("ReadmeRun").getMethod("run").invoke(null);
            } catch (InvocationTargetException e) {
                blame("the examples throw " + e.getCause());
            }
        } finally {
            Files.deleteIfExists(compiled);
            Files.deleteIfExists(file);
            Files.deleteIfExists(dir);
        }
    }

    /** Every call of the face is shown. */
    private static void calls(String page) {
        for (var m : NineBars.class.getDeclaredMethods()) {
            boolean open = java.lang.reflect.Modifier.isPublic(m.getModifiers());
            if (open && !blocks(page).contains("x." + m.getName() + "(")) {
                blame(m.getName() + " isn't shown");
            }
        }
    }

    /** The tests it names are the project's tests. */
    private static void tests(String page) {
        File[] files = new File("src/test/java").listFiles();
        for (File f : files == null ? new File[0] : files) {
            String name = f.getName().replace(".java", "");
            if (!page.contains("`" + name + "`")) {
                blame("the test " + name + " isn't named");
            }
        }
        Matcher m = Pattern.compile("`(\\w+Test)`").matcher(page);
        while (m.find()) {
            if (!new File("src/test/java/" + m.group(1) + ".java").isFile()) {
                blame("there is no test " + m.group(1));
            }
        }
        if (!page.contains("\n    .ci/run\n") || !new File(".ci/run").canExecute()) {
            blame(".ci/run isn't told, or can't be run");
        }
    }
}
