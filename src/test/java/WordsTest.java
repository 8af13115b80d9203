import java.io.IOException;
import java.nio.file.Files;
import java.nio.file.Path;
import java.util.List;
import java.util.regex.Matcher;
import java.util.regex.Pattern;
import java.util.stream.Stream;

/** No sentence of the document's terms and promises is without a test: each stands in some words(".."). */
public final class WordsTest {
    /** What isn't a sentence of its own: headings, calls, which throw it is that the words behind tell of. */
    private static final List<String> FRAMES = List.of("```text", "```", "==== \\d\\.", "## Terms", "## Promise \\d+: (A new object|\\w+)",
        "`\\w+ \\w+\\([^`]*`:", "`NineBars\\(\\)`:", "The constants:", "\\w+Exception:",
        // FormTest has these
        "Ahead of the calls .*? the interface says: ---- [a-z, ]+\\.");

    private WordsTest() {
    }

    public static void main(String[] args) throws IOException {
        String doc = Files.readString(Path.of("../shared/DOC.md")).replaceAll("\\s+", " ");
        boolean[] tested = new boolean[doc.length()];
        int many = 0;
        try (Stream<Path> files = Files.list(Path.of("src/test/java"))) {
            for (Path file : files.filter(f -> f.toString().endsWith("Test.java")).toList()) {
                many += mark(doc, tested, Files.readString(file));
            }
        }
        int wrong = tell(left(doc, tested));
        System.out.println("WordsTest: " + many + " times words of the document, " + wrong + " without a test");
        if (wrong != 0 || many == 0) {
            System.exit(1);
        }
    }

    private static int mark(String doc, boolean[] tested, String source) {
        int many = 0;
        Matcher m = Pattern.compile("words\\((\"(?:[^\"\\\\]|\\\\.)+\")\\);").matcher(source);
        while (m.find()) {
            String said = m.group(1).substring(1, m.group(1).length() - 1);
            for (int at = doc.indexOf(said); at >= 0; at = doc.indexOf(said, at + 1)) {
                for (int i = at; i < at + said.length(); i++) {
                    tested[i] = true;
                }
            }
            many++;
        }
        return many;
    }

    /** What no test has, from the terms to the last promise, a sign | where tested words were. */
    private static String left(String doc, boolean[] tested) {
        StringBuilder left = new StringBuilder();
        for (int i = doc.indexOf("## Terms"); i < doc.indexOf("## Not promised"); i++) {
            left.append(tested[i] ? '|' : doc.charAt(i));
        }
        int used = doc.indexOf("An object is used");
        for (int i = used; i < doc.indexOf("## The public face"); i++) {
            left.append(tested[i] ? '|' : doc.charAt(i));
        }
        String rest = left.toString();
        for (String frame : FRAMES) {
            rest = rest.replaceAll(frame, "|");
        }
        return rest;
    }

    private static int tell(String rest) {
        int wrong = 0;
        for (String part : rest.split("\\|+")) {
            if (part.matches(".*[A-Za-z0-9].*")) {
                wrong++;
                System.out.println("WordsTest: no test is of: " + part.strip());
            }
        }
        return wrong;
    }
}
