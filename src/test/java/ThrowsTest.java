import java.util.ArrayList;
import java.util.List;

/** Which of several throws of a call comes, and that a call that throws changes nothing. */
public final class ThrowsTest extends Check {
    private static final String SPENT = "bar 4;bar 4;bar 4;bar 4;bar 3;bar 3;bar 3;bar 3;";

    private interface Of {
        long answer(NineBars x);
    }

    private interface Made {
        NineBars x();
    }

    public static void main(String[] args) {
        noSuchFirst();
        spentFirst();
        argumentFirst();
        trayThrows();
        words("A call that throws changes nothing.");
        asked();
        ofTrays();
        ofSpent();
        end("ThrowsTest");
    }

    // ---- several throws

    private static void noSuchFirst() {
        words("Of several throws of a call that one comes that is told first.");
        NineBars x = rich();
        NineBars spent = spent();
        // no such BAR or RULE, and another what
        refused(() -> x.bar(3, 6), NO_SUCH);
        refused(() -> x.rule(2, 5), NO_SUCH);
        refused(() -> x.bar(2, 6), ARGUMENT);
        refused(() -> x.rule(1, 5), ARGUMENT);
        // no such BAR or STAND, and SPENT
        refused(() -> spent.placeIn(20736, 0), NO_SUCH);
        refused(() -> spent.placeIn(0, 8), NO_SUCH);
        refused(() -> spent.placeIn(20736, 8), NO_SUCH);
        refused(() -> is(spent.canBe(20736)), NO_SUCH);
        refused(() -> spent.shortest(20736, 0, 0), NO_SUCH);
        refused(() -> spent.shortest(0, 20736, 0), NO_SUCH);
        refused(() -> is(spent.fromStart(20736)), NO_SUCH);
        refused(() -> spent.fewestOf(8), NO_SUCH);
        refused(() -> spent.ifWorn(8), NO_SUCH);
        refused(() -> spent.placeIn(20735, 7), STATE);
        refused(() -> is(spent.canBe(20735)), STATE);
        refused(() -> spent.shortest(20735, 20735, 0), STATE);
        refused(() -> is(spent.fromStart(20735)), STATE);
        refused(() -> spent.fewestOf(7), STATE);
        refused(() -> spent.ifWorn(7), STATE);
    }

    private static void spentFirst() {
        words("IllegalStateException: SPENT; IllegalArgumentException: another what (in this order below, too).");
        NineBars spent = spent();
        refused(() -> spent.farthest(2), STATE);
        refused(() -> spent.within(-1), STATE);
        refused(() -> spent.within(1000), STATE);
        refused(() -> spent.dead(-1), STATE);
        refused(() -> spent.musts(9), STATE);
        refused(() -> spent.musts(-1), STATE);
    }

    private static void argumentFirst() {
        words("IllegalArgumentException: m, another what; IllegalStateException: more than 600 STANDS.");
        NineBars spent = spent();
        NineBars many = Boxes.told("bar 4;bar 3;bar 3;bar 3;bar 3;bar 2;");
        for (NineBars x : new NineBars[] {spent, many}) {
            refused(() -> x.hardest(0, 0), ARGUMENT);
            refused(() -> x.hardest(1000, 0), ARGUMENT);
            refused(() -> x.hardest(1, -1), ARGUMENT);
            refused(() -> x.hardest(1, 7), ARGUMENT);
            refused(() -> x.hardest(1, 6), STATE);
            refused(() -> x.hardest(999, 0), STATE);
        }
        words("IllegalArgumentException: n, another what; IllegalStateException: SPENT.");
        refused(() -> spent.keeps(0, 0), ARGUMENT);
        refused(() -> spent.keeps(3, 0), ARGUMENT);
        refused(() -> spent.keeps(1, -1), ARGUMENT);
        refused(() -> spent.keeps(2, 3), ARGUMENT);
        refused(() -> spent.keeps(1, 2), STATE);
        refused(() -> spent.keeps(2, 2), STATE);
        words("IllegalArgumentException: n; IllegalStateException: SPENT.");
        refused(() -> spent.rows(-1, true), ARGUMENT);
        refused(() -> spent.rows(21, false), ARGUMENT);
        refused(() -> spent.rows(20, true), STATE);
        refused(() -> spent.rows(0, false), STATE);
        words("IllegalArgumentException: how many times; IllegalStateException: no BARS.");
        refused(() -> new NineBars().thief(0, 0), ARGUMENT);
        refused(() -> new NineBars().thief(0, 61), ARGUMENT);
        refused(() -> new NineBars().thief(0, 60), STATE);
    }

    private static void trayThrows() {
        words("Of several throws of a call that one comes that is told first.");
        NineBars x = rich();
        NineBars spent = spent();
        // TRAY 2 is of 0 numbers, 1 of such as aren't TOLD, 3 is MISSING
        refused(() -> x.judge(4, 4), NO_SUCH);
        refused(() -> x.judge(3, 4), STATE);
        refused(() -> x.judge(2, 4), ARGUMENT);
        refused(() -> spent.known(4), NO_SUCH);
        refused(() -> spent.known(3), STATE);
        refused(() -> spent.known(2), STATE);
        refused(() -> x.known(2), ARGUMENT);
        refused(() -> spent.pour(4), NO_SUCH);
        refused(() -> spent.pour(3), STATE);
        refused(() -> spent.pour(2), STATE);
        for (Of call : new Of[] {y -> y.fits(16, 3, 0), y -> y.fits(0, 4, 0), y -> y.fits(16, 4, 0), y -> y.fits(-1, 1, 0),
            y -> y.tries(16, 3, 2), y -> y.tries(0, 4, 2), y -> y.tries(-1, 1, 2)}) {
            refused(() -> call.answer(spent), NO_SUCH);
            refused(() -> call.answer(x), NO_SUCH);
        }
        for (Of call : new Of[] {y -> y.fits(0, 3, 0), y -> y.tries(0, 3, 2)}) {
            refused(() -> call.answer(spent), STATE);
            refused(() -> call.answer(x), STATE);
        }
        refused(() -> spent.fits(0, 1, 0), STATE);
        refused(() -> spent.tries(0, 1, 0), STATE);
        refused(() -> spent.tries(0, 2, 2), STATE);
        refused(() -> x.fits(0, 1, 0), ARGUMENT);
        refused(() -> x.tries(0, 1, 0), ARGUMENT);
        refused(() -> x.tries(0, 2, 2), ARGUMENT);
        refused(done(() -> x.tray(4, 4, 41)), NO_SUCH);
        refused(done(() -> x.tray(3, 4, 41)), ARGUMENT);
        refused(() -> x.write(4, 40, 0), NO_SUCH);
        refused(() -> x.write(3, 40, 0), STATE);
        refused(() -> x.write(2, 0, 0), INDEX);
        refused(done(() -> x.restore(3)), NO_SUCH);
        refused(done(() -> x.restore(2)), STATE);
    }

    // ---- nothing changes

    /** An object with something of everything: a fault, bytes on the tape, TRAY 3 MISSING, IMAGE 2 not made. */
    private static NineBars rich() {
        NineBars x = Boxes.told("bar 2;bar 3;rule 1 0 to 1 if 0 at 1;wear 1;");
        x.step(0, true);
        x.image(1);
        Boxes.tell(x, "bar 3 at 1 open 2;bar 2;bar 4;rule 0 1 to 2 if 1 at 1;rule 2 0 to 1 if 0 not 1 and 1 at 1;nested 2;wear 3;");
        fill(x);
        return x;
    }

    private static NineBars spent() {
        NineBars x = Boxes.told("bar 2;");
        x.image(1);
        Boxes.tell(x, SPENT);
        fill(x);
        return x;
    }

    private static void fill(NineBars x) {
        x.image(0);
        x.step(0, false);
        x.step(0, true);
        Boxes.lay(x, 0, 0, -1, 3);
        Boxes.lay(x, 1, 3, 5, 1L << 40);
        x.tray(2, 1, 0);
        Boxes.tell(x, "bar 2;bar 7;");
        Boxes.feed(x, "bar 2;bar 4 at 3;wear 1;");
    }

    private static String answer(Of call, NineBars x) {
        try {
            return Long.toString(call.answer(x));
        } catch (RuntimeException e) {
            return e.getClass().getSimpleName();
        }
    }

    /** All that the face can tell of an object, in one row. */
    private static List<String> told(NineBars x) {
        List<String> all = new ArrayList<>();
        tellBox(x, all);
        tellVerses(x, all);
        tellTrays(x, all);
        // what changes it comes last
        all.add(answer(y -> y.perform(0), x));
        all.add(answer(y -> y.pour(0), x));
        all.add(answer(y -> y.perform(0), x));
        tellBox(x, all);
        all.add(answer(y -> y.box(24), x));
        tellBox(x, all);
        for (int i = 0; i < 3; i++) {
            int image = i;
            all.add(answer(y -> {
                y.restore(image);
                return 0;
            }, x));
            tellBox(x, all);
        }
        return all;
    }

    private static void tellBox(NineBars x, List<String> all) {
        for (int i = 0; i < 8; i++) {
            int what = i;
            all.add(answer(y -> y.count(what), x));
        }
        all.add(answer(y -> y.fault(0), x));
        all.add(answer(y -> y.fault(1), x));
        for (int b = 0; b < 3; b++) {
            int bar = b;
            for (int i = 0; i < 6; i += 1 + b) {
                int what = i;
                all.add(answer(y -> y.bar(bar, what), x));
            }
        }
        all.add(answer(y -> y.rule(1, 4), x));
        all.add(answer(NineBars::stand, x));
    }

    private static void tellVerses(NineBars x, List<String> all) {
        Of[] calls = {y -> y.may(1, true), y -> y.stops(2, true), NineBars::reached, y -> is(y.canBe(3)), y -> y.shortest(0, 5, -1),
            y -> y.opening(-1), NineBars::ways, y -> y.farthest(1), y -> y.within(2), y -> is(y.fromStart(4)), y -> y.dead(0),
            NineBars::oneWays, y -> y.fewestOf(0), y -> y.musts(0), y -> y.ifWorn(0), NineBars::weakest, y -> y.hardest(9, 0),
            y -> y.hardest(9, 4), y -> y.keeps(2, 0), y -> y.rows(5, false), y -> y.rows(6, true), NineBars::keys};
        for (Of call : calls) {
            all.add(answer(call, x));
        }
    }

    private static void tellTrays(NineBars x, List<String> all) {
        for (int t = 0; t < 4; t++) {
            int tray = t;
            for (int i = 0; i < 4; i++) {
                int what = i;
                all.add(answer(y -> y.judge(tray, what), x));
            }
            all.add(answer(y -> y.known(tray), x));
            all.add(answer(y -> y.fits(0, tray, -1), x));
            all.add(answer(y -> y.tries(0, tray, 0), x));
        }
    }

    private static void same(Made made, Class<?> want, Of call) {
        NineBars x = made.x();
        List<String> untouched = told(made.x());
        refused(() -> call.answer(x), want);
        List<String> after = told(x);
        due("what it tells behind the throw", () -> is(after.equals(untouched)), 1);
    }

    private static void asked() {
        Made rich = ThrowsTest::rich;
        same(rich, ARGUMENT, x -> x.box(-1));
        same(rich, ARGUMENT, x -> x.box(41));
        same(rich, NO_SUCH, x -> x.bar(3, 0));
        same(rich, ARGUMENT, x -> x.bar(0, 6));
        same(rich, NO_SUCH, x -> x.rule(2, 0));
        same(rich, ARGUMENT, x -> x.rule(0, 5));
        same(rich, NO_SUCH, x -> x.placeIn(0, 3));
        same(rich, NO_SUCH, x -> x.placeIn(24, 0));
        same(rich, ARGUMENT, x -> x.thief(1, 0));
        same(rich, ARGUMENT, x -> x.thief(1, 61));
        same(NineBars::new, STATE, x -> x.thief(1, 60));
        same(rich, NO_SUCH, x -> is(x.canBe(24)));
        same(rich, NO_SUCH, x -> x.shortest(24, 0, -1));
        same(rich, NO_SUCH, x -> x.shortest(0, 24, -1));
        same(rich, ARGUMENT, x -> x.farthest(2));
        same(rich, ARGUMENT, x -> x.within(1000));
        same(rich, NO_SUCH, x -> is(x.fromStart(24)));
        same(rich, ARGUMENT, x -> x.dead(2));
        same(rich, NO_SUCH, x -> x.fewestOf(3));
        same(rich, ARGUMENT, x -> x.musts(9));
        same(rich, ARGUMENT, x -> x.halves(31, 0));
        same(rich, ARGUMENT, x -> x.halves(3, 8));
        same(rich, ARGUMENT, x -> x.halvesFirst(0, 0));
        same(rich, NO_SUCH, x -> x.ifWorn(3));
        same(rich, ARGUMENT, x -> x.hardest(0, 0));
        same(rich, ARGUMENT, x -> x.hardest(1000, 0));
        same(rich, ARGUMENT, x -> x.hardest(1, 7));
        same(rich, ARGUMENT, x -> x.keeps(3, 0));
        same(rich, ARGUMENT, x -> x.keeps(1, 3));
        same(rich, ARGUMENT, x -> x.rows(21, true));
    }

    private static void ofTrays() {
        Made rich = ThrowsTest::rich;
        same(rich, NO_SUCH, x -> x.judge(4, 0));
        same(rich, STATE, x -> x.judge(3, 0));
        same(rich, ARGUMENT, x -> x.judge(0, 4));
        same(rich, NO_SUCH, x -> x.perform(4));
        same(rich, STATE, x -> x.perform(3));
        same(rich, NO_SUCH, x -> x.known(4));
        same(rich, STATE, x -> x.known(3));
        same(rich, ARGUMENT, x -> x.known(2));
        same(rich, NO_SUCH, x -> x.fits(6, 0, -1));
        same(rich, NO_SUCH, x -> x.fits(0, 4, -1));
        same(rich, STATE, x -> x.fits(0, 3, -1));
        same(rich, ARGUMENT, x -> x.fits(0, 1, -1));
        same(rich, NO_SUCH, x -> x.tries(6, 0, 0));
        same(rich, STATE, x -> x.tries(0, 3, 0));
        same(rich, ARGUMENT, x -> x.tries(0, 1, 0));
        same(rich, ARGUMENT, x -> x.tries(0, 2, 2));
        same(rich, NO_SUCH, x -> tray(x, 4, 0, 1));
        same(rich, ARGUMENT, x -> tray(x, 0, 4, 1));
        same(rich, ARGUMENT, x -> tray(x, 0, -1, 1));
        same(rich, ARGUMENT, x -> tray(x, 0, 0, 41));
        same(rich, ARGUMENT, x -> tray(x, 3, 0, -1));
        same(rich, NO_SUCH, x -> x.write(4, 0, 1));
        same(rich, STATE, x -> x.write(3, 0, 1));
        same(rich, INDEX, x -> x.write(0, 2, 1));
        same(rich, INDEX, x -> x.write(0, -1, 1));
        same(rich, INDEX, x -> x.write(2, 0, 1));
        same(rich, NO_SUCH, x -> x.pour(4));
        same(rich, STATE, x -> x.pour(3));
        same(rich, NO_SUCH, x -> image(x, 3));
        same(rich, NO_SUCH, x -> image(x, -1));
        same(rich, NO_SUCH, x -> restore(x, 3));
        same(rich, STATE, x -> restore(x, 2));
    }

    private static long tray(NineBars x, int tray, int sort, int many) {
        x.tray(tray, sort, many);
        return 0;
    }

    private static long image(NineBars x, int i) {
        x.image(i);
        return 0;
    }

    private static long restore(NineBars x, int i) {
        x.restore(i);
        return 0;
    }

    private static void ofSpent() {
        Of[] calls = {x -> x.placeIn(0, 0), x -> is(x.canBe(0)), x -> x.shortest(0, 1, -1), x -> x.opening(-1), NineBars::ways,
            x -> x.farthest(0), x -> x.within(0), x -> is(x.fromStart(0)), x -> x.dead(0), NineBars::oneWays, x -> x.fewestOf(0),
            x -> x.musts(0), x -> x.ifWorn(0), NineBars::weakest, x -> x.hardest(1, 0), x -> x.known(0), x -> x.keeps(1, 0),
            x -> x.fits(0, 0, -1), x -> x.tries(0, 0, 0), x -> x.rows(0, true), NineBars::keys, x -> x.pour(0)};
        for (Of call : calls) {
            same(ThrowsTest::spent, STATE, call);
        }
    }
}
