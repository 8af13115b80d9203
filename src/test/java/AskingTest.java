/** What is asked is answered for THE BOX as it is now, whatever was asked ahead of it, and whatever THE BOX was then. */
public final class AskingTest extends Check {
    private interface Of {
        long answer(NineBars x);
    }

    private static final Of[] CALLS = {NineBars::stand, x -> is(x.isOpen()), x -> x.may(0, true), x -> x.stops(0, true),
        x -> x.judge(0, 0), x -> x.judge(0, 3), NineBars::reached, x -> is(x.canBe(1)), x -> x.shortest(0, 3, -1), x -> x.shortest(1, 2, 0),
        x -> x.opening(-1), x -> x.opening(1), NineBars::ways, x -> x.farthest(0), x -> x.farthest(1), x -> x.within(2),
        x -> is(x.fromStart(3)), x -> is(x.fromStart(1)), x -> x.dead(0), x -> x.dead(1), NineBars::oneWays, x -> x.fewestOf(0),
        x -> x.fewestOf(1), x -> x.musts(0), x -> x.musts(11), x -> x.halves(3, 5), x -> x.halvesFirst(3, 6), x -> x.ifWorn(0),
        x -> x.ifWorn(1), NineBars::weakest, x -> x.hardest(9, 0), x -> x.hardest(2, 0), x -> x.hardest(9, 4), x -> x.known(0),
        x -> x.known(1), x -> x.keeps(1, 0), x -> x.keeps(2, 0), x -> x.keeps(2, 2), x -> x.fits(1, 2, -1), x -> x.fits(2, 2, 0),
        x -> x.tries(1, 2, 0), x -> x.tries(3, 2, 1), x -> x.rows(3, false), x -> x.rows(4, true), NineBars::keys,
        x -> x.bar(0, 4), x -> x.rule(0, 4), x -> x.count(5), x -> x.fault(0)};

    private static final String[] TEXTS = {
        "bar 3;bar 2;rule 0 0 to 1 if 1 at 1;rule 0 1 to 2 if 1 at 0;wear 2;",
        "bar 2 at 1;bar 2;bar 2;nested 3;rule 1 1 to 0 if 0 at 1;",
        "bar 2;bar 4 open 2;rule 0 0 to 1 if 1 at 3;rule 1 3 to 2 if 0 at 1;rule 0 1 to 0 if 1 not 0;",
        "bar 4 at 2 open 1;bar 3 at 1;bar 2;rule 0 2 to 1 if 1 at 0 and 2 at 1;rule 1 1 to 0 if 2 at 1;wear 1;",
        "bar 2;bar 2;rule 0 0 to 1 if 1 at 0 and 1 at 1;",
        "bar 4;bar 4;bar 4;bar 4;bar 4;bar 4;bar 4;bar 4;"};

    public static void main(String[] args) {
        inAnyOrder();
        ofAnotherBox();
        behindSteps();
        behindRestored();
        end("AskingTest");
    }

    private static NineBars told(String text) {
        NineBars x = Boxes.told(text);
        lay(x);
        return x;
    }

    private static void lay(NineBars x) {
        Boxes.lay(x, 0, 0, 3, 1, 2);
        Boxes.lay(x, 1, 0, -1, -1, -1, -1);
        Boxes.lay(x, 2, 0, 1);
    }

    private static String answer(Of call, NineBars x) {
        try {
            return Long.toString(call.answer(x));
        } catch (RuntimeException e) {
            return e.getClass().getSimpleName();
        }
    }

    private static String[] answers(NineBars x) {
        String[] all = new String[CALLS.length];
        for (int i = 0; i < CALLS.length; i++) {
            all[i] = answer(CALLS[i], x);
        }
        return all;
    }

    private static void same(NineBars x, int call, String want) {
        String got = answer(CALLS[call], x);
        due("call " + call + " of the row: " + got + " for " + want, () -> is(got.equals(want)), 1);
    }

    private static void same(NineBars x, String[] want) {
        for (int i = 0; i < CALLS.length; i++) {
            same(x, i, want[i]);
        }
    }

    /** Each call alone on an object of its own. */
    private static String[] alone(String text, boolean moved) {
        String[] all = new String[CALLS.length];
        for (int i = 0; i < CALLS.length; i++) {
            NineBars x = told(text);
            if (moved) {
                move(x);
            }
            all[i] = answer(CALLS[i], x);
        }
        return all;
    }

    private static void move(NineBars x) {
        x.step(1, true);
        x.step(1, false);
        x.step(0, false);
    }

    private static void inAnyOrder() {
        about("each call twice, and another one between");
        for (String text : TEXTS) {
            String[] want = alone(text, true);
            for (int i = 0; i < CALLS.length; i++) {
                NineBars x = told(text);
                move(x);
                for (int k = 0; k < CALLS.length; k++) {
                    same(x, i, want[i]);
                    same(x, k, want[k]);
                }
                same(x, i, want[i]);
            }
        }
    }

    private static void ofAnotherBox() {
        about("asked of one box, then of another one");
        for (String text : TEXTS) {
            for (String other : TEXTS) {
                NineBars x = told(text);
                answers(x);
                Boxes.tell(x, other);
                same(x, alone(other, false));
                Boxes.tell(x, text);
                same(x, alone(text, false));
            }
        }
        for (String text : TEXTS) {
            String[] first = alone(text, false);
            for (int i = 0; i < CALLS.length; i++) {
                NineBars x = told(TEXTS[0]);
                answer(CALLS[i], x);
                Boxes.tell(x, text);
                same(x, i, first[i]);
            }
        }
    }

    private static void behindSteps() {
        about("asked, then again behind steps");
        for (String text : TEXTS) {
            String[] moved = alone(text, true);
            for (int i = 0; i < CALLS.length; i++) {
                NineBars x = told(text);
                answer(CALLS[i], x);
                move(x);
                same(x, i, moved[i]);
            }
            NineBars all = told(text);
            answers(all);
            move(all);
            same(all, moved);
        }
    }

    private static void behindRestored() {
        about("asked, then again of an image");
        for (String text : TEXTS) {
            String[] moved = alone(text, true);
            for (String other : TEXTS) {
                NineBars x = told(text);
                move(x);
                x.image(0);
                Boxes.tell(x, other);
                answers(x);
                x.restore(0);
                same(x, moved);
                move(x);
                answers(x);
                x.restore(0);
                same(x, moved);
            }
        }
    }
}
