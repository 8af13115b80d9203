import java.lang.reflect.Constructor;
import java.lang.reflect.Field;
import java.lang.reflect.Method;
import java.lang.reflect.Modifier;
import java.nio.file.Files;
import java.nio.file.Path;
import java.util.ArrayList;
import java.util.Arrays;
import java.util.HashSet;
import java.util.List;
import java.util.Set;
import java.util.TreeSet;
import java.util.regex.Matcher;
import java.util.regex.Pattern;

/** The face as the document has it, and the rules of LANGUAGE.md that can be seen from outside. */
public final class FormTest {
    private static int wrong = 0;

    private static void blame(String what) {
        wrong++;
        System.out.println("FormTest: " + what);
    }

    public static void main(String[] args) throws Exception {
        Set<String> face = face(Files.readString(Path.of("../shared/DOC.md")));
        members(face);
        classes();
        source(Files.readString(Path.of("src/main/java/NineBars.java")));
        System.out.println("FormTest: " + face.size() + " members of the face, " + wrong + " wrong");
        if (wrong != 0) {
            System.exit(1);
        }
    }

    /** The lines of the document's face, without what they throw. */
    private static Set<String> face(String doc) {
        Set<String> face = new TreeSet<>();
        int from = doc.indexOf("public final class NineBars {");
        for (String line : doc.substring(from, doc.indexOf("```", from)).split("\n")) {
            if (line.startsWith("    public")) {
                face.add(line.strip());
            }
        }
        return face;
    }

    private static String types(Class<?>[] types) {
        StringBuilder s = new StringBuilder();
        for (Class<?> t : types) {
            s.append(s.length() == 0 ? "" : ", ").append(t.getSimpleName());
        }
        return s.toString();
    }

    /** A line of the face as reflection tells it: no names of what is given. */
    private static String bare(String line) {
        Matcher m = Pattern.compile("(.*?)\\((.*?)\\)( throws (.*))?;").matcher(line);
        if (!m.matches()) {
            return line;
        }
        String given = m.group(2).replaceAll("(\\w+) \\w+", "$1");
        return m.group(1) + "(" + given + ")" + (m.group(4) == null ? "" : " throws " + m.group(4)) + ";";
    }

    private static void members(Set<String> face) throws Exception {
        Set<String> want = new TreeSet<>();
        for (String line : face) {
            want.add(bare(line));
        }
        Set<String> have = new TreeSet<>();
        for (Constructor<?> c : NineBars.class.getDeclaredConstructors()) {
            have.add("public NineBars(" + types(c.getParameterTypes()) + ");");
        }
        for (Method m : NineBars.class.getDeclaredMethods()) {
            if (!Modifier.isPrivate(m.getModifiers())) {
                String thrown = types(m.getExceptionTypes());
                have.add(Modifier.toString(m.getModifiers()) + " " + m.getReturnType().getSimpleName() + " " + m.getName()
                        + "(" + types(m.getParameterTypes()) + ")" + (thrown.isEmpty() ? "" : " throws " + thrown) + ";");
            }
        }
        for (Field f : NineBars.class.getDeclaredFields()) {
            if (!Modifier.isPrivate(f.getModifiers())) {
                have.add(Modifier.toString(f.getModifiers()) + " int " + f.getName() + " = " + f.getInt(null) + ";");
            }
        }
        for (String line : want) {
            if (!have.contains(line)) {
                blame("the face lacks " + line);
            }
        }
        for (String line : have) {
            if (!want.contains(line)) {
                blame("the face has " + line);
            }
        }
    }

    private static void classes() {
        List<Class<?>> all = new ArrayList<>(Arrays.asList(NineBars.class.getDeclaredClasses()));
        all.add(NineBars.class);
        Set<String> open = new HashSet<>();
        for (Method m : NineBars.class.getDeclaredMethods()) {
            if (Modifier.isPublic(m.getModifiers())) {
                open.add(m.getName());
            }
        }
        if (all.size() > 12) {
            blame("more than 12 classes");
        }
        for (Class<?> c : all) {
            int fields = 0;
            for (Field f : c.getDeclaredFields()) {
                boolean fixed = Modifier.isStatic(f.getModifiers());
                fields += fixed ? 0 : 1;
                if (fixed && !Modifier.isFinal(f.getModifiers())) {
                    blame("static state: " + f);
                }
            }
            if (fields > 20) {
                blame("more than 20 fields: " + c);
            }
            for (Method m : c.getDeclaredMethods()) {
                if ((c != NineBars.class || Modifier.isPrivate(m.getModifiers())) && open.contains(m.getName())) {
                    blame("bears a public method's name: " + m);
                }
                if (m.getParameterCount() > 7) {
                    blame("more than 7 parameters: " + m);
                }
            }
        }
    }

    private static void source(String text) {
        String[] none = {"try", "catch", "finally", "->", "::", "synchronized", "assert", "import static", "System.out",
            "instanceof", "hashCode", "toString", "package ", "double", "float", "Object"};
        String code = text.replaceAll("/\\*\\*?[^/]*\\*/", "").replaceAll("//.*", "").replaceAll("\"[^\"]*\"", "\"\"");
        for (String word : none) {
            String asWord = Character.isLetter(word.charAt(0)) ? "\\b" + word.strip() + "\\b" : Pattern.quote(word);
            if (Pattern.compile(asWord).matcher(code).find()) {
                blame("the source has " + word);
            }
        }
        for (char c : text.toCharArray()) {
            if (c > 126 || c < 32 && c != '\n') {
                blame("the source has the sign " + (int) c);
            }
        }
        int start = 0;
        String[] lines = text.split("\n");
        for (int i = 0; i < lines.length; i++) {
            if (lines[i].matches(" {4}( {4})?[a-z].*\\{")) {
                start = i;
            }
            if (lines[i].matches(" {4}( {4})?\\}") && i - start > 60 && !lines[start].contains("class")) {
                blame("a long method: " + lines[start].strip());
            }
        }
    }
}
