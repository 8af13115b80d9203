import java.io.IOException;
import java.nio.file.Files;
import java.nio.file.Path;
import java.util.NoSuchElementException;

/** Asks calls for the answers that are due, each under the words of the document that it is of. */
abstract class Check {
    interface Call {
        long answer();
    }

    interface Act {
        void make();
    }

    static final Class<?> NO_SUCH = NoSuchElementException.class;
    static final Class<?> STATE = IllegalStateException.class;
    static final Class<?> ARGUMENT = IllegalArgumentException.class;
    static final Class<?> INDEX = IndexOutOfBoundsException.class;

    private static final String DOC = "../shared/DOC.md";
    private static String doc = "";
    private static String about = "";
    private static int sentences = 0;
    private static int asked = 0;
    private static int wrong = 0;

    /** What the questions that follow are about. */
    static void about(String what) {
        about = what;
    }

    /** The document's own words, of which the questions that follow are: they must stand there. */
    static void words(String said) {
        about = said;
        sentences++;
        if (!doc().contains(said)) {
            blame("these words", "no such words in " + DOC);
        }
    }

    private static String doc() {
        if (doc.isEmpty()) {
            try {
                doc = Files.readString(Path.of(DOC)).replaceAll("\\s+", " ");
            } catch (IOException e) {
                throw new IllegalStateException(e);
            }
        }
        return doc;
    }

    static void due(Call call, long want) {
        due("", call, want);
    }

    static void due(String what, Call call, long want) {
        asked++;
        try {
            long got = call.answer();
            if (got != want) {
                blame(what, got + ", due is " + want);
            }
        } catch (RuntimeException e) {
            blame(what, e + ", due is " + want);
        }
    }

    static void dueIf(Call call, boolean good, long want, Class<?> otherwise) {
        if (good) {
            due(call, want);
        } else {
            refused(call, otherwise);
        }
    }

    /** A call that answers nothing, and throws nothing. */
    static void made(Act act) {
        due("", done(act), 0);
    }

    static Call done(Act act) {
        return () -> {
            act.make();
            return 0;
        };
    }

    static void refused(Call call, Class<?> want) {
        refused("", call, want);
    }

    static void refused(String what, Call call, Class<?> want) {
        asked++;
        try {
            blame(what, call.answer() + ", due is " + want.getSimpleName());
        } catch (RuntimeException e) {
            if (e.getClass() != want) {
                blame(what, e + ", due is " + want.getSimpleName());
            }
        }
    }

    static long is(boolean b) {
        return b ? 1 : 0;
    }

    private static void blame(String what, String got) {
        wrong++;
        String line = StackWalker.getInstance().walk(frames -> frames
                .filter(f -> !f.getClassName().equals(Check.class.getName()))
                .map(f -> f.getClassName() + "." + f.getMethodName() + " line " + f.getLineNumber())
                .findFirst().orElse("?"));
        System.out.println(line + ": " + about + (what.isEmpty() ? "" : ": " + what) + ": " + got);
    }

    static void end(String name) {
        System.out.println(name + ": " + (sentences > 0 ? sentences + " sentences, " : "") + asked + " asked, " + wrong + " wrong");
        if (wrong != 0) {
            System.exit(1);
        }
    }
}
