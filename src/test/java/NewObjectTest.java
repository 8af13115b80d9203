/** Each call of the face on an object without BARS: a new one, and one whose last TEXT told none. */
public final class NewObjectTest extends Check {
    private static final int LEAST = Integer.MIN_VALUE;
    private static final int MOST = Integer.MAX_VALUE;

    private interface Made {
        NineBars x();
    }

    public static void main(String[] args) {
        words("No BARS; TRAYS are MISSING; an empty tape.");
        all(NineBars::new);
        trays(NineBars::new);
        images(NineBars::new);
        Made emptied = () -> {
            NineBars x = Boxes.told("bar 3 at 1;bar 2;rule 0 1 to 2 if 1 at 1;nested 2;wear 1;");
            x.step(0, false);
            x.reached();
            x.hardest(9, 0);
            x.box(0);
            return x;
        };
        words("(without one: no BARS)");
        all(emptied);
        trays(emptied);
        images(emptied);
        Made blank = () -> Boxes.told(" \n");
        all(blank);
        Made onlyWear = () -> {
            NineBars x = Boxes.told("bar 2;wear 3;");
            x.image(0);
            Boxes.tell(x, "");
            return x;
        };
        all(onlyWear);
        first();
        end("NewObjectTest");
    }

    private static void all(Made made) {
        box(made.x());
        steps(made.x());
        verses(made.x());
        known(made.x());
    }

    private static void first() {
        words("what 0: the FAULT (0 without, and at first), 1: its place (NONE without).");
        due(() -> new NineBars().fault(0), 0);
        due(() -> new NineBars().fault(1), -1);
        due(() -> new NineBars().fault(2), -1);
        words("how many it has; NONE, and nothing changes, if there would be more than 900.");
        due(() -> new NineBars().feed(0, 0, 0, 0, 0), 20);
        words("n is below 0 or above what it has.");
        due(() -> new NineBars().box(0), 0);
        refused(() -> new NineBars().box(1), ARGUMENT);
        refused(() -> new NineBars().box(-1), ARGUMENT);
        words("`NONE = -1`: There is none.");
        due(() -> NineBars.NONE, -1);
        words("`SPENT = -1000`: Too many STANDS.");
        due(() -> NineBars.SPENT, -1000);
        // two objects have nothing of one another
        NineBars x = Boxes.told("bar 2;");
        x.tray(0, 0, 1);
        x.image(0);
        x.feed(0, 0, 0, 0, 0);
        NineBars y = new NineBars();
        due(() -> y.count(1), 0);
        due(() -> y.count(7), 0);
        refused(() -> y.perform(0), STATE);
        refused(done(() -> y.restore(0)), STATE);
    }

    private static void box(NineBars x) {
        due(() -> x.fault(0), 0);
        due(() -> x.fault(1), -1);
        for (int b : new int[] {LEAST, -1, 0, 1, MOST}) {
            for (int what : new int[] {-1, 0, 5, 6}) {
                refused(() -> x.bar(b, what), NO_SUCH);
                refused(() -> x.rule(b, what), NO_SUCH);
            }
            refused(() -> x.placeIn(0, b), NO_SUCH);
            refused(() -> x.placeIn(1, b), NO_SUCH);
        }
        due(x::stand, 0);
        due(() -> is(x.isOpen()), 1);
        long[] counts = {0, 0, 0, 0, 0, 1, 0, 0};
        for (int i = 0; i < counts.length; i++) {
            int what = i;
            due(() -> x.count(what), counts[what]);
        }
    }

    private static void steps(NineBars x) {
        for (int b : new int[] {LEAST, -1, 0, 1, 8, 9, MOST}) {
            for (int up = 0; up < 2; up++) {
                boolean so = up == 1;
                due(() -> x.may(b, so), 1);
                due(() -> x.step(b, so), -1);
                due(() -> x.stops(b, so), -1);
            }
        }
        for (int t = 0; t < 4; t++) {
            int tray = t;
            refused(() -> x.judge(tray, 0), STATE);
            refused(() -> x.perform(tray), STATE);
        }
        refused(() -> x.thief(1, 0), ARGUMENT);
        refused(() -> x.thief(1, 1), STATE);
        refused(() -> x.thief(1, 60), STATE);
        refused(() -> x.thief(1, 61), ARGUMENT);
        due(() -> x.count(6), 0);
    }

    private static void verses(NineBars x) {
        due(x::reached, 1);
        due(() -> is(x.canBe(0)), 1);
        due(() -> is(x.fromStart(0)), 1);
        due(() -> x.shortest(0, 0, -1), 0);
        due(() -> x.shortest(0, 0, 0), -1);
        for (int s : new int[] {LEAST, -1, 1, MOST}) {
            refused(() -> is(x.canBe(s)), NO_SUCH);
            refused(() -> is(x.fromStart(s)), NO_SUCH);
            refused(() -> x.shortest(s, 0, -1), NO_SUCH);
            refused(() -> x.shortest(0, s, -1), NO_SUCH);
        }
        due(() -> x.opening(-1), 0);
        due(() -> x.opening(0), -1);
        due(x::ways, 1);
        due(() -> x.farthest(0), 0);
        due(() -> x.farthest(1), 0);
        refused(() -> x.farthest(2), ARGUMENT);
        due(() -> x.within(0), 1);
        due(() -> x.within(999), 1);
        refused(() -> x.within(1000), ARGUMENT);
        due(() -> x.dead(0), 0);
        due(() -> x.dead(1), -1);
        refused(() -> x.dead(2), ARGUMENT);
        due(x::oneWays, 0);
        refused(() -> x.fewestOf(0), NO_SUCH);
        due(() -> x.musts(0), 1);
        due(() -> x.musts(10), 0);
        due(() -> x.musts(11), -1);
        refused(() -> x.musts(9), ARGUMENT);
        due(() -> x.halves(1, 1), 1);
        due(() -> x.halvesFirst(1, 1), 0);
        due(() -> x.halvesFirst(1, 0), -1);
    }

    private static void known(NineBars x) {
        refused(() -> x.ifWorn(0), NO_SUCH);
        due(x::weakest, -1);
        for (int what = 0; what <= 6; what++) {
            int w = what;
            due(() -> x.hardest(1, w), -1);
            due(() -> x.hardest(999, w), -1);
        }
        refused(() -> x.known(0), STATE);
        for (int what = 0; what <= 2; what++) {
            int w = what;
            due(() -> x.keeps(1, w), -1);
            due(() -> x.keeps(2, w), -1);
        }
        refused(() -> x.fits(0, 0, -1), NO_SUCH);
        refused(() -> x.tries(0, 0, 0), NO_SUCH);
        for (int n = 0; n <= 20; n++) {
            int many = n;
            due(() -> x.rows(many, false), many == 0 ? 1 : 0);
            due(() -> x.rows(many, true), many == 0 ? 1 : 0);
        }
        due(x::keys, 0);
    }

    private static void trays(Made made) {
        NineBars x = made.x();
        refused(() -> x.write(0, 0, 0), STATE);
        refused(() -> x.pour(0), STATE);
        made(() -> x.tray(0, 0, 0));
        due(() -> x.judge(0, 0), -1);
        due(() -> x.judge(0, 1), 0);
        due(() -> x.judge(0, 2), 1);
        due(() -> x.judge(0, 3), -2);
        due(() -> x.perform(0), 0);
        due(() -> x.pour(0), 0);
        refused(() -> x.known(0), ARGUMENT);
        refused(() -> x.write(0, 0, 0), INDEX);
        made(() -> x.tray(0, 0, 1));
        due(() -> x.judge(0, 0), 0);
        due(() -> x.judge(0, 1), 1);
        due(() -> x.judge(0, 2), 1);
        due(() -> x.judge(0, 3), -2);
        due(() -> x.perform(0), 0);
        due(() -> x.pour(0), 0);
        due(() -> x.known(0), 0);
        due(() -> x.write(0, 0, -1), -1);
        due(() -> x.known(0), 0);
        refused(() -> x.fits(0, 0, -1), NO_SUCH);
        refused(() -> x.tries(0, 0, 0), NO_SUCH);
    }

    private static void images(Made made) {
        NineBars x = made.x();
        for (int i = 0; i < 3; i++) {
            int so = i;
            refused(done(() -> x.restore(so)), STATE);
        }
        made(() -> x.image(0));
        Boxes.tell(x, "bar 2;");
        made(() -> x.restore(0));
        due(() -> x.count(1), 0);
        due(() -> x.count(5), 1);
        due(x::keys, 0);
    }
}
