import java.lang.reflect.Constructor;
import java.lang.reflect.Field;
import java.lang.reflect.Method;
import java.lang.reflect.Modifier;
import java.nio.file.Files;
import java.nio.file.Path;
import java.util.ArrayList;
import java.util.List;
import java.util.Set;
import java.util.TreeSet;
import java.util.regex.Matcher;
import java.util.regex.Pattern;

/** The face as the document has it. */
public final class FormTest {
    private static int wrong = 0;

    private static void blame(String what) {
        wrong++;
        System.out.println("FormTest: " + what);
    }

    public static void main(String[] args) throws Exception {
        Set<String> face = face(Files.readString(Path.of("../shared/DOC.md")));
        members(face);
        headings(Files.readString(Path.of("../shared/DOC.md")), Files.readString(Path.of("src/main/java/NineBars.java")));
        System.out.println("FormTest: " + face.size() + " members of the face, " + wrong + " wrong");
        if (wrong != 0) {
            System.exit(1);
        }
    }

    /** The lines of the document's face, without what they throw. */
    private static Set<String> face(String doc) {
        Set<String> face = new TreeSet<>();
        int from = doc.indexOf("public final class NineBars {");
        for (String line : doc.substring(from, doc.indexOf("```", from)).split("\n")) {
            if (line.startsWith("    public")) {
                face.add(line.strip());
            }
        }
        return face;
    }

    private static String types(Class<?>[] types) {
        StringBuilder s = new StringBuilder();
        for (Class<?> t : types) {
            s.append(s.length() == 0 ? "" : ", ").append(t.getSimpleName());
        }
        return s.toString();
    }

    /** A line of the face as reflection tells it: no names of what is given. */
    private static String bare(String line) {
        Matcher m = Pattern.compile("(.*?)\\((.*?)\\)( throws (.*))?;").matcher(line);
        if (!m.matches()) {
            return line;
        }
        String given = m.group(2).replaceAll("(\\w+) \\w+", "$1");
        return m.group(1) + "(" + given + ")" + (m.group(4) == null ? "" : " throws " + m.group(4)) + ";";
    }

    private static void members(Set<String> face) throws Exception {
        Set<String> want = new TreeSet<>();
        for (String line : face) {
            want.add(bare(line));
        }
        Set<String> have = new TreeSet<>();
        for (Constructor<?> c : NineBars.class.getDeclaredConstructors()) {
            have.add("public NineBars(" + types(c.getParameterTypes()) + ");");
        }
        for (Method m : NineBars.class.getDeclaredMethods()) {
            if (!Modifier.isPrivate(m.getModifiers())) {
                String thrown = types(m.getExceptionTypes());
                have.add(Modifier.toString(m.getModifiers()) + " " + m.getReturnType().getSimpleName() + " " + m.getName()
                        + "(" + types(m.getParameterTypes()) + ")" + (thrown.isEmpty() ? "" : " throws " + thrown) + ";");
            }
        }
        for (Field f : NineBars.class.getDeclaredFields()) {
            if (!Modifier.isPrivate(f.getModifiers())) {
                have.add(Modifier.toString(f.getModifiers()) + " int " + f.getName() + " = " + f.getInt(null) + ";");
            }
        }
        for (String line : want) {
            if (!have.contains(line)) {
                blame("the face lacks " + line);
            }
        }
        for (String line : have) {
            if (!want.contains(line)) {
                blame("the face has " + line);
            }
        }
    }

    /** What the interface says ahead of the calls, and the calls in their order. */
    private static void headings(String doc, String source) {
        Matcher m = Pattern.compile("Ahead of the calls (.*?) the interface says: (---- .*?)\\.\n").matcher(doc);
        StringBuilder want = new StringBuilder();
        while (m.find()) {
            want.append("// ").append(m.group(2)).append(": ").append(m.group(1).replace("`", "")).append('\n');
        }
        StringBuilder have = new StringBuilder();
        for (String part : source.split("(?m)^    // (?=---- )")) {
            List<String> calls = new ArrayList<>();
            Matcher call = Pattern.compile("(?m)^    public \\w+ (\\w+)\\(").matcher(part);
            while (call.find()) {
                calls.add(call.group(1));
            }
            if (part.startsWith("---- ") && !calls.isEmpty()) {
                have.append("// ").append(part, 0, part.indexOf('\n')).append(": ").append(String.join(", ", calls)).append('\n');
            }
        }
        if (want.length() == 0 || !have.toString().equals(want.toString())) {
            blame("the headings are\n" + have + "due are\n" + want);
        }
    }
}
