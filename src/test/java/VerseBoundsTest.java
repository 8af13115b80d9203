import java.math.BigInteger;
import java.util.Arrays;

/** The bounds that the document names of VERSES, wear, notches, what is known, ROWS and KEYS (promises 16 to 38). */
public final class VerseBoundsTest extends Check {
    private static final String LAST_FEW = "bar 3;".repeat(9);
    private static final String FIRST_SPENT = "bar 4;bar 4;bar 4;bar 4;bar 3;bar 3;bar 3;bar 3;";
    private static final String FREE = "bar 2;bar 2;";
    private static final String RINGS = "bar 2;bar 2;bar 2;nested 3;";
    /** 0 -> 1 only with bar 1 at 1, 1 -> 2 only with bar 1 at 0: opens by up1 up0 down1 up0 up1. */
    private static final String LOCK = "bar 3;bar 2;rule 0 0 to 1 if 1 at 1;rule 0 1 to 2 if 1 at 0;";
    /** Bar 0 never goes up. */
    private static final String NEVER = "bar 2;bar 2;rule 0 0 to 1 if 1 at 0 and 1 at 1;";
    private static final int[] OUT_OF_NINE = {Integer.MIN_VALUE, -1, 9, 10, Integer.MAX_VALUE};
    private static final int[] NO_TRAYS = {Integer.MIN_VALUE, -1, 4, 5, Integer.MAX_VALUE};

    public static void main(String[] args) {
        lastFew();
        firstSpent();
        wornAsNow();
        reached();
        canBe();
        shortest();
        firstByNumbers();
        opening();
        ways();
        farthest();
        within();
        fromStart();
        dead();
        oneWays();
        fewestOf();
        musts();
        halves();
        halvesFirst();
        ifWorn();
        weakest();
        hardestBounds();
        hardestLongest();
        hardestFirst();
        known();
        knownLost();
        keeps();
        keepsForty();
        fits();
        toldNumbers();
        fitsOrder();
        tries();
        rows();
        rowsLost();
        keys();
        end("VerseBoundsTest");
    }

    private static void lastFew() {
        words("if there are more than 20,000 STANDS it is SPENT (-1000).");
        // 19,683 is the last number of STANDS that isn't above 20,000, 20,736 the first that is
        NineBars x = Boxes.told(LAST_FEW);
        x.tray(0, 0, 40);
        x.tray(1, 0, 0);
        x.tray(2, 0, 1);
        due(() -> x.write(2, 0, -1), -1);
        due(() -> x.placeIn(19682, 0), 2);
        due(x::reached, 19683);
        due(() -> is(x.canBe(19682)), 1);
        due(() -> x.shortest(19682, 0, -1), 18);
        due(() -> x.opening(-1), 18);
        due(x::ways, 12504636144000L);
        due(() -> x.farthest(0), 18);
        due(() -> x.farthest(1), 19682);
        due(() -> x.within(1), 10);
        due(() -> is(x.fromStart(19682)), 1);
        due(() -> x.dead(0), 0);
        due(x::oneWays, 0);
        due(() -> x.fewestOf(8), 2);
        due(() -> x.musts(0), 2);
        due(() -> x.musts(11), 19682);
        due(() -> x.ifWorn(8), 18);
        due(x::weakest, 0);
        due(() -> x.known(2), 0);
        due(() -> x.keeps(1, 0), 1);
        due(() -> x.fits(1, 1, -1), 48);
        due(() -> x.tries(1, 1, 1), 24);
        due(() -> x.rows(1, false), 9);
        due(x::keys, -1);
        due(() -> x.pour(0), 18);
    }

    private static void firstSpent() {
        words("if there are more than 20,000 STANDS it is SPENT (-1000).");
        NineBars x = Boxes.told(FIRST_SPENT);
        x.tray(0, 0, 40);
        x.tray(1, 0, 0);
        due(x::stand, -1000);
        due(x::reached, -1000);
        refused(() -> x.placeIn(0, 0), STATE);
        refused(() -> is(x.canBe(0)), STATE);
        refused(() -> is(x.canBe(20735)), STATE);
        refused(() -> x.shortest(0, 0, -1), STATE);
        refused(() -> x.opening(-1), STATE);
        refused(x::ways, STATE);
        refused(() -> x.farthest(0), STATE);
        refused(() -> x.within(0), STATE);
        refused(() -> is(x.fromStart(0)), STATE);
        refused(() -> x.dead(0), STATE);
        refused(x::oneWays, STATE);
        refused(() -> x.fewestOf(0), STATE);
        refused(() -> x.musts(0), STATE);
        refused(() -> x.ifWorn(0), STATE);
        refused(x::weakest, STATE);
        refused(() -> x.hardest(1, 0), STATE);
        refused(() -> x.known(0), STATE);
        refused(() -> x.keeps(1, 0), STATE);
        refused(() -> x.fits(1, 1, -1), STATE);
        refused(() -> x.tries(1, 1, 0), STATE);
        refused(() -> x.rows(0, false), STATE);
        refused(x::keys, STATE);
        refused(() -> x.pour(0), STATE);
        // what isn't of STANDS goes on
        due(() -> is(x.isOpen()), 0);
        due(() -> x.may(7, true), 0);
        due(() -> x.stops(7, false), -1);
        due(() -> x.step(7, true), 1);
        due(() -> x.judge(0, 0), 0);
        due(() -> x.perform(1), 0);
        due(() -> is(x.thief(1, 60) > 0), 1);
        due(() -> x.halves(30, 1), 1);
        // and all does again on a smaller box
        Boxes.tell(x, FREE);
        due(x::stand, 0);
        due(x::reached, 4);
    }

    private static void wornAsNow() {
        words("All of 3 is asked with BARS WORN as they are now (no more wearing)");
        NineBars x = Boxes.told(LOCK + "wear 1;");
        due(() -> x.opening(-1), 5);
        due(() -> x.shortest(0, 5, -1), 5);
        x.step(1, true);
        due(() -> x.opening(-1), 4);
        x.step(0, true);
        due(() -> x.bar(0, 4), 1);
        due(() -> x.opening(-1), 1);
        due(() -> x.shortest(0, 5, -1), 3);
        NineBars y = Boxes.told(LOCK + "wear 2;");
        y.step(1, true);
        y.step(0, true);
        due(() -> y.opening(-1), 3);
        y.step(0, false);
        y.step(1, false);
        due(() -> y.bar(0, 4), 1);
        due(() -> y.opening(-1), 3);
        due(() -> y.opening(0), 1);
        // a restored box is asked with BARS WORN as they were then
        y.image(0);
        Boxes.tell(y, LOCK);
        due(() -> y.opening(-1), 5);
        y.restore(0);
        due(() -> y.opening(-1), 3);
    }

    private static void reached() {
        words("REACHED are STANDS to which a VERSE leads from now.");
        words("How many STANDS are REACHED (this one, too); SPENT.");
        due(() -> new NineBars().reached(), 1);
        due(() -> Boxes.told(NEVER + "rule 1 0 to 1 if 0 at 1;").reached(), 1);
        due(() -> Boxes.told(NEVER).reached(), 2);
        due(() -> Boxes.told(FREE).reached(), 4);
        due(() -> Boxes.told(Boxes.oneWay(0, 0)).reached(), 64);
        due(() -> Boxes.told(Boxes.oneWay(62, 0)).reached(), 2);
        due(() -> Boxes.told(Boxes.oneWay(63, 0)).reached(), 1);
    }

    private static void canBe() {
        words("Whether a STAND is REACHED. NoSuchElementException: the STAND; IllegalStateException: SPENT.");
        NineBars x = Boxes.told(Boxes.oneWay(40, 0));
        for (int p = 0; p < 64; p++) {
            int so = p;
            due(() -> is(x.canBe(Boxes.standOnWay(so))), so >= 40 ? 1 : 0);
        }
        for (int s : new int[] {Integer.MIN_VALUE, -1, 64, 65, Integer.MAX_VALUE}) {
            refused(() -> is(x.canBe(s)), NO_SUCH);
        }
        due(() -> is(new NineBars().canBe(0)), 1);
        refused(() -> is(new NineBars().canBe(1)), NO_SUCH);
        NineBars spent = Boxes.told(FIRST_SPENT);
        refused(() -> is(spent.canBe(20736)), NO_SUCH);
        refused(() -> is(spent.canBe(-1)), NO_SUCH);
    }

    private static void shortest() {
        words("The SHORTEST from a STAND to another one, k NONE: how many STEPS, else STEP k; NONE: there is none, not so many.");
        NineBars x = Boxes.told(LOCK);
        long[] verse = {3, 1, 2, 1, 3};
        for (int k = -3; k <= 7; k++) {
            int i = k;
            due(() -> x.shortest(0, 5, i), i == -1 ? 5 : i >= 0 && i < 5 ? verse[i] : -1);
        }
        due(() -> x.shortest(0, 5, Integer.MIN_VALUE), -1);
        due(() -> x.shortest(0, 5, Integer.MAX_VALUE), -1);
        due(() -> x.shortest(2, 2, -1), 0);
        due(() -> x.shortest(2, 2, 0), -1);
        due(() -> x.shortest(0, 3, -1), 1);
        due(() -> x.shortest(0, 3, 0), 3);
        due(() -> x.shortest(0, 3, 1), -1);
        NineBars none = Boxes.told(NEVER);
        due(() -> none.shortest(0, 1, -1), -1);
        due(() -> none.shortest(0, 1, 0), -1);
        due(() -> none.shortest(1, 0, -1), 1);
        NineBars way = Boxes.told(Boxes.oneWay(9, 9));
        due(() -> way.shortest(Boxes.standOnWay(0), Boxes.standOnWay(63), -1), 63);
        due(() -> way.shortest(Boxes.standOnWay(63), Boxes.standOnWay(0), -1), -1);
        words("Throws likewise.");
        for (int s : new int[] {Integer.MIN_VALUE, -1, 6, 7, Integer.MAX_VALUE}) {
            refused(() -> x.shortest(s, 0, -1), NO_SUCH);
            refused(() -> x.shortest(0, s, -1), NO_SUCH);
            refused(() -> x.shortest(0, s, 99), NO_SUCH);
        }
        NineBars spent = Boxes.told(FIRST_SPENT);
        refused(() -> spent.shortest(20736, 0, -1), NO_SUCH);
        refused(() -> spent.shortest(0, 20736, -1), NO_SUCH);
        refused(() -> spent.shortest(0, 20735, -1), STATE);
        due(() -> new NineBars().shortest(0, 0, -1), 0);
        refused(() -> new NineBars().shortest(0, 1, -1), NO_SUCH);
    }

    private static void firstByNumbers() {
        words("SHORTEST from a STAND to another one: the VERSE with the fewest STEPS, of like ones the first by numbers.");
        NineBars x = Boxes.told("bar 3 at 1;bar 3 at 1;");
        due(() -> x.shortest(4, 0, 0), 0);
        due(() -> x.shortest(4, 0, 1), 2);
        due(() -> x.shortest(4, 8, 0), 1);
        due(() -> x.shortest(4, 8, 1), 3);
        due(() -> x.shortest(4, 2, 0), 1);
        due(() -> x.shortest(4, 2, 1), 2);
        due(() -> x.shortest(4, 6, 0), 0);
        due(() -> x.shortest(4, 6, 1), 3);
        NineBars nine = Boxes.told("bar 2;".repeat(9));
        for (int k = 0; k < 9; k++) {
            int i = k;
            due(() -> nine.opening(i), 2 * i + 1);
        }
        // the first number leads astray: only the second one goes on in as few
        NineBars astray = Boxes.told("bar 2;bar 2;rule 1 0 to 1 if 0 at 0;");
        due(() -> astray.opening(0), 3);
        due(() -> astray.opening(1), 1);
    }

    private static void opening() {
        words("The SHORTEST from now to OPEN, likewise. IllegalStateException: SPENT (as below).");
        NineBars x = Boxes.told(LOCK);
        long[] verse = {3, 1, 2, 1, 3};
        for (int k = -3; k <= 7; k++) {
            int i = k;
            due(() -> x.opening(i), i == -1 ? 5 : i >= 0 && i < 5 ? verse[i] : -1);
        }
        due(() -> x.opening(Integer.MIN_VALUE), -1);
        due(() -> x.opening(Integer.MAX_VALUE), -1);
        due(() -> Boxes.told(NEVER).opening(-1), -1);
        due(() -> Boxes.told(NEVER).opening(0), -1);
        due(() -> Boxes.told("bar 2 at 1;").opening(-1), 0);
        due(() -> Boxes.told("bar 2 at 1;").opening(0), -1);
        due(() -> new NineBars().opening(-1), 0);
        due(() -> new NineBars().opening(0), -1);
    }

    private static void ways() {
        words("How many SHORTEST VERSES there are from now to OPEN; 0: none.");
        due(() -> Boxes.told(NEVER).ways(), 0);
        due(() -> Boxes.told("bar 2 at 1;").ways(), 1);
        due(() -> new NineBars().ways(), 1);
        due(() -> Boxes.told("bar 2;").ways(), 1);
        due(() -> Boxes.told("bar 2;".repeat(9)).ways(), 362880);
        due(() -> Boxes.told(Boxes.oneWay(0, 63)).ways(), 1);
        due(() -> Boxes.told(Boxes.oneWay(1, 0)).ways(), 0);
        // to stand 0, and through it
        due(() -> Boxes.told("bar 3 at 2 open 0;bar 2 at 1 open 0;").ways(), 3);
        due(() -> Boxes.told("bar 2 at 1 open 0;bar 2;rule 1 0 to 1 if 0 at 0;").ways(), 1);
    }

    private static void farthest() {
        words("FARTHEST: of REACHED ones that to which the SHORTEST from now is longest, the least.");
        NineBars x = Boxes.told("bar 3 at 1;bar 3 at 1;");
        due(() -> x.farthest(0), 2);
        due(() -> x.farthest(1), 0);
        due(() -> Boxes.told(NEVER).farthest(0), 1);
        due(() -> Boxes.told(NEVER).farthest(1), 2);
        // from 2 one step leads to 3, one to 0, and no other one goes
        NineBars tie = Boxes.told("bar 2;bar 2 at 1;rule 1 1 to 0 if 0 at 0;rule 0 0 to 1 if 1 at 1;");
        due(tie::reached, 3);
        due(() -> tie.farthest(0), 1);
        due(() -> tie.farthest(1), 0);
        due(() -> Boxes.told(Boxes.oneWay(0, 0)).farthest(0), 63);
        due(() -> Boxes.told(Boxes.oneWay(0, 0)).farthest(1), Boxes.standOnWay(63));
        due(() -> Boxes.told(Boxes.oneWay(63, 0)).farthest(0), 0);
        due(() -> Boxes.told(Boxes.oneWay(63, 0)).farthest(1), Boxes.standOnWay(63));
        due(() -> new NineBars().farthest(0), 0);
        due(() -> new NineBars().farthest(1), 0);
        words("FARTHEST, what 0: STEPS, 1: the STAND.");
        for (int what : new int[] {Integer.MIN_VALUE, -1, 2, 3, Integer.MAX_VALUE}) {
            refused(() -> x.farthest(what), ARGUMENT);
            refused(() -> Boxes.told(FIRST_SPENT).farthest(what), STATE);
        }
    }

    private static void within() {
        words("How many STANDS are REACHED by at most n STEPS (0 to 999). IllegalStateException: SPENT; IllegalArgumentException: n.");
        NineBars x = Boxes.told(Boxes.oneWay(0, 0));
        for (int n : new int[] {0, 1, 2, 61, 62, 63, 64, 998, 999}) {
            due(() -> x.within(n), Math.min(64, n + 1));
        }
        for (int n : new int[] {Integer.MIN_VALUE, -2, -1, 1000, 1001, Integer.MAX_VALUE}) {
            refused(() -> x.within(n), ARGUMENT);
            refused(() -> Boxes.told(FIRST_SPENT).within(n), STATE);
        }
        NineBars rings = Boxes.told("bar 2;".repeat(9) + "nested 9;");
        due(() -> rings.within(510), 511);
        due(() -> rings.within(511), 512);
        due(() -> rings.within(512), 512);
        due(() -> new NineBars().within(0), 1);
        due(() -> new NineBars().within(999), 1);
    }

    private static void fromStart() {
        words("Whether a VERSE leads to a STAND from where BARS stood as THE BOX was told (BARS WORN as now). NoSuchElementException: the STAND; IllegalStateException: SPENT.");
        NineBars x = Boxes.told(Boxes.oneWay(40, 63));
        x.step(Boxes.onWay(41, 0) != Boxes.onWay(40, 0) ? 0 : 1, true);
        x.step(0, true);
        x.step(0, false);
        due(() -> is(x.count(6) > 0), 1);
        for (int p = 38; p < 44; p++) {
            int so = p;
            due(() -> is(x.fromStart(Boxes.standOnWay(so))), so >= 40 ? 1 : 0);
        }
        due(() -> is(x.canBe(Boxes.standOnWay(40))), 0);
        for (int s : new int[] {Integer.MIN_VALUE, -1, 64, 65, Integer.MAX_VALUE}) {
            refused(() -> is(x.fromStart(s)), NO_SUCH);
        }
        NineBars worn = Boxes.told("bar 2;bar 2;rule 0 0 to 1 if 1 at 1;rule 1 1 to 0 if 0 at 0 and 0 at 1;wear 1;");
        due(() -> is(worn.fromStart(1)), 0);
        worn.step(1, true);
        due(() -> is(worn.fromStart(1)), 1);
        due(() -> is(new NineBars().fromStart(0)), 1);
        refused(() -> is(new NineBars().fromStart(1)), NO_SUCH);
        refused(() -> is(Boxes.told(FIRST_SPENT).fromStart(20736)), NO_SUCH);
        refused(() -> is(Boxes.told(FIRST_SPENT).fromStart(20735)), STATE);
    }

    private static void dead() {
        words("DEAD are REACHED STANDS from which it can't be OPEN, what 0: how many, 1: the least (NONE).");
        due(() -> Boxes.told(FREE).dead(0), 0);
        due(() -> Boxes.told(FREE).dead(1), -1);
        due(() -> new NineBars().dead(0), 0);
        due(() -> new NineBars().dead(1), -1);
        NineBars all = Boxes.told(NEVER);
        due(() -> all.dead(0), 2);
        due(() -> all.dead(1), 0);
        NineBars one = Boxes.told(Boxes.oneWay(0, 62));
        due(() -> one.dead(0), 1);
        due(() -> one.dead(1), Boxes.standOnWay(63));
        NineBars past = Boxes.told(Boxes.oneWay(61, 60));
        due(() -> past.dead(0), 3);
        due(() -> past.dead(1), Math.min(Math.min(Boxes.standOnWay(61), Boxes.standOnWay(62)), Boxes.standOnWay(63)));
        due(() -> Boxes.told(Boxes.oneWay(0, 63)).dead(0), 0);
        for (int what : new int[] {Integer.MIN_VALUE, -1, 2, 3, Integer.MAX_VALUE}) {
            refused(() -> all.dead(what), ARGUMENT);
            refused(() -> Boxes.told(FIRST_SPENT).dead(what), STATE);
        }
    }

    private static void oneWays() {
        words("STEPS that GO from REACHED STANDS, but not back from there. IllegalStateException: SPENT.");
        due(() -> new NineBars().oneWays(), 0);
        due(() -> Boxes.told(FREE).oneWays(), 0);
        due(() -> Boxes.told(Boxes.oneWay(0, 0)).oneWays(), 63);
        due(() -> Boxes.told(Boxes.oneWay(62, 0)).oneWays(), 1);
        due(() -> Boxes.told(Boxes.oneWay(63, 0)).oneWays(), 0);
        // down goes back up nowhere, but up itself never goes: from 1, 3 are reached 0, 2
        due(() -> Boxes.told("bar 2 at 1;bar 2;rule 0 0 to 1 if 1 at 0 and 1 at 1;").oneWays(), 2);
        due(() -> Boxes.told(NEVER).oneWays(), 0);
    }

    private static void fewestOf() {
        words("The fewest STEPS of a BAR by which it can be OPEN from now, those of all others being as many as one likes; NONE: it can't be. NoSuchElementException: the BAR; IllegalStateException: SPENT.");
        due(() -> Boxes.told("bar 2 at 1;bar 2;").fewestOf(0), 0);
        due(() -> Boxes.told("bar 2 at 1;bar 2;").fewestOf(1), 1);
        due(() -> Boxes.told("bar 2 at 1;").fewestOf(0), 0);
        due(() -> Boxes.told(NEVER).fewestOf(0), -1);
        due(() -> Boxes.told(NEVER).fewestOf(1), -1);
        // bar 0 needs but one step, if bar 1 makes three up and three down
        NineBars likes = Boxes.told("bar 3;bar 4 open 0;bar 2;rule 0 0 to 1 if 1 at 3 and 2 at 0;rule 0 1 to 2 if 2 at 0;");
        due(() -> likes.fewestOf(0), 2);
        due(() -> likes.fewestOf(1), 6);
        due(() -> likes.fewestOf(2), 1);
        NineBars way = Boxes.told(Boxes.oneWay(0, 63));
        due(() -> way.fewestOf(0), 48);
        due(() -> way.fewestOf(1), 12);
        due(() -> way.fewestOf(2), 3);
        NineBars nine = Boxes.told("bar 2;".repeat(9));
        due(() -> nine.fewestOf(8), 1);
        for (int b : OUT_OF_NINE) {
            refused(() -> nine.fewestOf(b), NO_SUCH);
        }
        refused(() -> new NineBars().fewestOf(0), NO_SUCH);
        refused(() -> Boxes.told(FIRST_SPENT).fewestOf(8), NO_SUCH);
        refused(() -> Boxes.told(FIRST_SPENT).fewestOf(7), STATE);
    }

    private static void musts() {
        words("STANDS through which all VERSES go that are as short as the SHORTEST from now to OPEN, what 0: how many (both ends, too), 10 + k: the k-th on the way; NONE: not so many (it can't be OPEN: 0).");
        NineBars x = Boxes.told(Boxes.oneWay(3, 63));
        due(() -> x.musts(0), 61);
        for (int k = 0; k < 61; k++) {
            int i = k;
            due(() -> x.musts(10 + i), Boxes.standOnWay(3 + i));
        }
        due(() -> x.musts(71), -1);
        due(() -> x.musts(Integer.MAX_VALUE), -1);
        NineBars free = Boxes.told(FREE);
        due(() -> free.musts(0), 2);
        due(() -> free.musts(10), 0);
        due(() -> free.musts(11), 3);
        due(() -> free.musts(12), -1);
        NineBars open = Boxes.told("bar 2 at 1;bar 3 at 2;");
        due(() -> open.musts(0), 1);
        due(() -> open.musts(10), 5);
        due(() -> open.musts(11), -1);
        due(() -> Boxes.told(NEVER).musts(0), 0);
        due(() -> Boxes.told(NEVER).musts(10), -1);
        due(() -> Boxes.told(NEVER).musts(11), -1);
        due(() -> new NineBars().musts(0), 1);
        due(() -> new NineBars().musts(10), 0);
        words("IllegalStateException: SPENT; IllegalArgumentException: what is neither 0 nor 10 and more.");
        for (int what : new int[] {Integer.MIN_VALUE, -1, 1, 2, 8, 9}) {
            refused(() -> free.musts(what), ARGUMENT);
            refused(() -> Boxes.told(FIRST_SPENT).musts(what), STATE);
        }
    }

    private static void halves() {
        words("HALVES: n BARS of 2 PLACES that are all NESTED, without RULES, as bits (BAR 0 the lowest): STEPS of the SHORTEST from a STAND to that of nought, told without going through (n to 30).");
        NineBars x = new NineBars();
        for (int n = 2; n <= 9; n++) {
            int rings = n;
            NineBars box = Boxes.told("bar 2;".repeat(n) + "nested " + n + ";");
            for (int bits : new int[] {0, 1, 2, 3, (1 << n) - 1, 1 << n - 1, (1 << n) - 2, 0x155 & (1 << n) - 1}) {
                due(() -> x.halves(rings, bits), box.shortest(bits, 0, -1));
                int first = box.shortest(bits, 0, 0);
                due(() -> x.halvesFirst(rings, bits), first == -1 ? -1 : first >> 1);
            }
        }
        due(() -> x.halves(30, 1 << 29), (1 << 30) - 1);
        due(() -> x.halves(30, (1 << 30) - 1), 0x2AAAAAAA);
        due(() -> x.halves(1, 0), 0);
        due(() -> x.halves(1, 1), 1);
        words("HALVES. IllegalArgumentException: n isn't 1 to 30, bits with others than n.");
        for (int n : new int[] {Integer.MIN_VALUE, -1, 0, 31, 32, 33, 63, 64, Integer.MAX_VALUE}) {
            refused(() -> x.halves(n, 0), ARGUMENT);
            refused(() -> x.halves(n, 1), ARGUMENT);
        }
        for (int n = 1; n <= 30; n++) {
            int rings = n;
            due(() -> is(x.halves(rings, (1 << rings) - 1) > 0), 1);
            due(() -> x.halves(rings, 0), 0);
            refused(() -> x.halves(rings, 1 << rings), ARGUMENT);
            refused(() -> x.halves(rings, (1 << rings) + 1), ARGUMENT);
            refused(() -> x.halves(rings, -1), ARGUMENT);
            refused(() -> x.halves(rings, Integer.MIN_VALUE), ARGUMENT);
            refused(() -> x.halves(rings, Integer.MIN_VALUE + 1), ARGUMENT);
        }
    }

    private static void halvesFirst() {
        words("The BAR that moves first in these; NONE: it is nought.");
        NineBars x = new NineBars();
        due(() -> x.halvesFirst(1, 0), -1);
        due(() -> x.halvesFirst(30, 0), -1);
        due(() -> x.halvesFirst(1, 1), 0);
        due(() -> x.halvesFirst(2, 3), 1);
        due(() -> x.halvesFirst(2, 2), 0);
        due(() -> x.halvesFirst(30, 3 << 28), 29);
        due(() -> x.halvesFirst(30, 1 << 29), 0);
        words("IllegalArgumentException: likewise.");
        for (int n : new int[] {Integer.MIN_VALUE, -1, 0, 31, 32, Integer.MAX_VALUE}) {
            refused(() -> x.halvesFirst(n, 0), ARGUMENT);
        }
        for (int n = 1; n <= 30; n++) {
            int rings = n;
            due(() -> is(x.halvesFirst(rings, (1 << rings) - 1) >= 0), 1);
            refused(() -> x.halvesFirst(rings, 1 << rings), ARGUMENT);
            refused(() -> x.halvesFirst(rings, -1), ARGUMENT);
            refused(() -> x.halvesFirst(rings, Integer.MIN_VALUE), ARGUMENT);
        }
    }

    private static void ifWorn() {
        words("IF WORN: STEPS of the SHORTEST from now to OPEN, if some BAR were WORN, too");
        words("IF WORN; NONE: it can't be OPEN.");
        NineBars x = Boxes.told(LOCK);
        due(() -> x.ifWorn(0), 3);
        due(() -> x.ifWorn(1), 5);
        due(() -> Boxes.told(NEVER).ifWorn(0), 2);
        due(() -> Boxes.told(NEVER).ifWorn(1), -1);
        due(() -> Boxes.told("bar 2 at 1;").ifWorn(0), 0);
        // both ways: down it goes, too
        NineBars down = Boxes.told("bar 3 at 2 open 0;bar 2 at 1;rule 0 2 to 1 if 1 at 0;rule 0 1 to 0 if 1 at 0;");
        due(() -> down.opening(-1), 4);
        due(() -> down.ifWorn(0), 2);
        due(() -> down.ifWorn(1), 4);
        // too: with bar 0 worn already, bar 1 as well
        NineBars two = Boxes.told("bar 2;bar 2;bar 2;rule 1 0 to 1 if 0 at 0 and 0 at 1;rule 0 0 to 1 if 2 at 0;wear 1;");
        two.step(0, true);
        due(() -> two.ifWorn(0), -1);
        due(() -> two.ifWorn(1), 2);
        two.step(0, false);
        two.step(2, true);
        due(() -> two.ifWorn(1), 2);
        NineBars nine = Boxes.told("bar 2;".repeat(9));
        due(() -> nine.ifWorn(0), 9);
        due(() -> nine.ifWorn(8), 9);
        for (int b : OUT_OF_NINE) {
            refused(() -> nine.ifWorn(b), NO_SUCH);
        }
        refused(() -> new NineBars().ifWorn(0), NO_SUCH);
        refused(() -> Boxes.told(FIRST_SPENT).ifWorn(8), NO_SUCH);
        refused(() -> Boxes.told(FIRST_SPENT).ifWorn(7), STATE);
    }

    private static void weakest() {
        words("WEAKEST: the BAR by which it is least, the first.");
        due(() -> Boxes.told("bar 2;".repeat(9)).weakest(), 0);
        due(() -> Boxes.told("bar 2 at 1;bar 2 at 1;").weakest(), 0);
        due(() -> Boxes.told(LOCK).weakest(), 0);
        due(() -> Boxes.told("bar 2;bar 3;rule 1 0 to 1 if 0 at 1;rule 1 1 to 2 if 0 at 0;").weakest(), 1);
        due(() -> Boxes.told("bar 2;".repeat(8) + "bar 2;rule 8 0 to 1 if 0 at 0 and 0 at 1;").weakest(), 8);
        words("WEAKEST; NONE: no BAR lets it be OPEN.");
        String shut = "if 2 at 0 and 2 at 1;";
        due(() -> Boxes.told("bar 2;bar 2;bar 2;rule 0 0 to 1 " + shut + "rule 1 0 to 1 " + shut).weakest(), -1);
        due(() -> Boxes.told("bar 2;bar 2;bar 2;rule 1 0 to 1 " + shut).weakest(), 1);
        due(() -> new NineBars().weakest(), -1);
    }

    private static void hardestBounds() {
        words("HARDEST for m (1 to 999), with at most 600 STANDS");
        NineBars x = Boxes.told(FREE);
        for (int m : new int[] {Integer.MIN_VALUE, -1, 0, 1000, 1001, Integer.MAX_VALUE}) {
            refused(() -> x.hardest(m, 0), ARGUMENT);
        }
        due(() -> x.hardest(1, 0), -1);
        due(() -> x.hardest(999, 0), 2);
        // 576 is the last number of STANDS that isn't above 600, 648 the first that is
        NineBars last = Boxes.told("bar 4;bar 4;bar 4;bar 3;bar 3;");
        due(() -> last.count(5), 576);
        due(() -> last.hardest(999, 0), 15 - 2);
        NineBars first = Boxes.told("bar 4;bar 3;bar 3;bar 3;bar 3;bar 2;");
        due(() -> first.count(5), 648);
        refused(() -> first.hardest(999, 0), STATE);
        refused(() -> first.hardest(1, 6), STATE);
        refused(() -> Boxes.told("bar 4;".repeat(9)).hardest(1, 0), STATE);
        words("HARDEST, what 0: STEPS, 1: the BAR, 2: from, 3: to, 4: the other BAR, 5: 1 for not, else 0, 6: its PLACE; NONE: there is none.");
        for (int what = -3; what <= 9; what++) {
            int w = what;
            dueIf(() -> new NineBars().hardest(1, w), w >= 0 && w <= 6, -1, ARGUMENT);
            dueIf(() -> Boxes.told("bar 4;").hardest(9, w), w >= 0 && w <= 6, -1, ARGUMENT);
            dueIf(() -> x.hardest(1, w), w >= 0 && w <= 6, -1, ARGUMENT);
        }
        refused(() -> x.hardest(1, Integer.MIN_VALUE), ARGUMENT);
        refused(() -> x.hardest(1, Integer.MAX_VALUE), ARGUMENT);
        refused(() -> first.hardest(0, 0), ARGUMENT);
        refused(() -> first.hardest(1, 7), ARGUMENT);
    }

    private static void hardest(NineBars x, int m, long... want) {
        for (int i = 0; i < 7; i++) {
            int what = i;
            due(() -> x.hardest(m, what), want[what]);
        }
    }

    private static void hardestLongest() {
        words("that by which the SHORTEST from now to OPEN is longest, but not above m");
        // bar 0 only where bar 1 is at 2, which is open at 1: 4 steps, else 2
        NineBars x = Boxes.told("bar 2;bar 3 open 1;");
        hardest(x, 999, 4, 0, 0, 1, 1, 0, 2);
        hardest(x, 4, 4, 0, 0, 1, 1, 0, 2);
        hardest(x, 3, 2, 0, 0, 1, 1, 0, 0);
        hardest(x, 2, 2, 0, 0, 1, 1, 0, 0);
        hardest(x, 1, -1, -1, -1, -1, -1, -1, -1);
        hardest(x, 4, 4, 0, 0, 1, 1, 0, 2);
        words("(as a 25th, too)");
        String told = "bar 2;bar 3 open 1;";
        hardest(Boxes.told(told + "rule 0 1 to 0 if 1 at 0;".repeat(24)), 999, 4, 0, 0, 1, 1, 0, 2);
        // where a step is ruled already, one rule more can only let it go
        hardest(Boxes.told(told + "rule 0 0 to 1 if 1 at 2;".repeat(24)), 999, 4, 0, 0, 1, 1, 0, 2);
        hardest(Boxes.told(told + "rule 0 0 to 1 if 1 at 0;".repeat(24)), 999, 2, 0, 0, 1, 1, 0, 0);
        words("of all RULES with one FACT (of another BAR) that might be told more");
        hardest(Boxes.told(NEVER), 999, 2, 0, 0, 1, 1, 0, 0);
        hardest(Boxes.told("bar 2 at 1;bar 2 at 1;"), 1, 0, 0, 0, 1, 1, 0, 0);
        hardest(Boxes.told("bar 3;"), 999, -1, -1, -1, -1, -1, -1, -1);
    }

    private static void hardestFirst() {
        words("of like ones the first: by BAR, from, to (the lower one first), the other BAR, at ahead of not, its PLACE.");
        String[] texts = {FREE, LOCK, RINGS, "bar 3 at 1;bar 3 at 1;", "bar 4 at 2 open 1;bar 2;bar 3 at 2 open 0;",
            "bar 2;bar 2;bar 2;rule 2 0 to 1 if 0 at 1;", "bar 3 at 2 open 0;bar 3 at 2 open 0;", NEVER,
            "bar 3 at 1 open 0;bar 2;bar 2 open 0;rule 1 0 to 1 if 0 at 2;rule 0 0 to 1 if 1 at 0;",
            "bar 4 at 1 open 2;bar 3 at 1;rule 1 1 to 2 if 0 at 0;", "bar 3;bar 3;rule 0 1 to 2 if 1 at 1;rule 1 0 to 1 if 0 not 2;",
            "bar 3 at 2 open 0;bar 4 at 3 open 2;rule 0 1 to 2 if 1 at 3;rule 0 0 to 1 if 1 at 3;", "bar 2 open 0;bar 4 at 3 open 1;bar 2;nested 2;"};
        for (String text : texts) {
            NineBars x = Boxes.told(text);
            Model y = new Model();
            Boxes.tell(y, text);
            for (int m : new int[] {1, 2, 3, 4, 5, 6, 7, 8, 9, 12, 999}) {
                for (int what = 0; what < 7; what++) {
                    int w = what;
                    due(text, () -> x.hardest(m, w), y.hardest(m, w));
                }
            }
        }
    }

    private static void known() {
        words("KNOWN in a TRAY (1 to 40 numbers: a STEP of a VERSE, or NONE where it isn't known)");
        NineBars x = Boxes.told(FREE);
        x.tray(0, 0, 0);
        refused(() -> x.known(0), ARGUMENT);
        Boxes.lay(x, 0, 0, -1);
        due(() -> x.known(0), 0);
        long[] row = new long[40];
        Arrays.fill(row, -1);
        Boxes.lay(x, 0, 0, row);
        // half of all 2^40 rows move both bars an odd number of times
        due(() -> x.known(0), 1L << 39);
        for (int many = 1; many <= 40; many++) {
            Boxes.lay(x, 1, 2, Arrays.copyOf(row, many));
            int n = many;
            due(() -> x.known(1), n % 2 == 1 ? 0 : 1L << n - 1);
        }
        Boxes.lay(x, 0, 0, 1, 3);
        due(() -> x.known(0), 1);
        for (long v : new long[] {-2, 4, 5, 127, -128, 0}) {
            Boxes.lay(x, 0, 0, 1, v);
            due(() -> x.known(0), 0);
            Boxes.lay(x, 0, 0, v, -1);
            due(() -> x.known(0), 0);
        }
        for (long v : new long[] {1L << 32, (1L << 32) - 1, (1L << 32) + 3, -(1L << 32) + 3, Long.MIN_VALUE, Long.MAX_VALUE}) {
            Boxes.lay(x, 0, 3, 1, v);
            due(() -> x.known(0), 0);
        }
        NineBars nine = Boxes.told("bar 2 at 1;".repeat(8) + "bar 2;");
        Boxes.lay(nine, 0, 0, 17);
        due(() -> nine.known(0), 1);
        Boxes.lay(nine, 0, 0, 18);
        due(() -> nine.known(0), 0);
        // what is no step isn't bar 0 down either
        NineBars down = Boxes.told("bar 2 at 1 open 0;");
        for (long v : new long[] {-2, 2, 9, 64, -128}) {
            Boxes.lay(down, 0, 0, v);
            due(() -> down.known(0), 0);
        }
        Boxes.lay(down, 0, 0, 0);
        due(() -> down.known(0), 1);
        words("of all VERSES of so many STEPS from now that end OPEN (whether it was OPEN ahead or not), how many are as told");
        NineBars open = Boxes.told("bar 2 at 1;bar 2 at 1;");
        Boxes.lay(open, 0, 0, -1, -1);
        due(() -> open.known(0), 2);
        Boxes.lay(open, 0, 0, 0, -1);
        due(() -> open.known(0), 1);
        NineBars none = new NineBars();
        Boxes.lay(none, 0, 0, -1);
        due(() -> none.known(0), 0);
        words("KNOWN. NoSuchElementException: no such TRAY; IllegalStateException: it is MISSING, SPENT; IllegalArgumentException: not 1 to 40 numbers.");
        for (int t : NO_TRAYS) {
            refused(() -> x.known(t), NO_SUCH);
        }
        refused(() -> x.known(3), STATE);
        NineBars spent = Boxes.told(FIRST_SPENT);
        refused(() -> spent.known(0), STATE);
        spent.tray(0, 0, 0);
        refused(() -> spent.known(0), STATE);
    }

    private static void knownLost() {
        words("(as a long, what is above it is lost)");
        for (String text : new String[] {"bar 3;".repeat(3), "bar 2;".repeat(6), "bar 4;bar 4;bar 3;bar 3;", LOCK}) {
            NineBars x = Boxes.told(text);
            Model y = new Model();
            Boxes.tell(y, text);
            for (int many : new int[] {24, 30, 38, 39, 40}) {
                long[] row = new long[many];
                Arrays.fill(row, -1);
                Boxes.lay(x, 0, 0, row);
                y.tray(0, 0, many);
                for (int i = 0; i < many; i++) {
                    y.write(0, i, -1);
                }
                due(text, () -> x.known(0), y.known(0));
            }
        }
    }

    private static void keeps() {
        words("LINES TO KEEP, n of them (1, 2)");
        NineBars x = Boxes.told(FREE);
        for (int n : new int[] {Integer.MIN_VALUE, -1, 0, 3, 4, Integer.MAX_VALUE}) {
            refused(() -> x.keeps(n, 0), ARGUMENT);
        }
        due(() -> x.keeps(1, 0), 1);
        due(() -> x.keeps(2, 0), 2);
        words("LINES TO KEEP, what 0: how many VERSES, 1: the first line, 2: the second one; NONE: no such VERSE, not so many lines, not so many kept.");
        for (int what : new int[] {Integer.MIN_VALUE, -1, 3, 4, Integer.MAX_VALUE}) {
            refused(() -> x.keeps(1, what), ARGUMENT);
            refused(() -> x.keeps(2, what), ARGUMENT);
            refused(() -> Boxes.told(FIRST_SPENT).keeps(1, what), ARGUMENT);
        }
        due(() -> x.keeps(1, 1), 0);
        due(() -> x.keeps(1, 2), -1);
        due(() -> x.keeps(2, 1), 0);
        due(() -> x.keeps(2, 2), 1);
        for (int what = 0; what <= 2; what++) {
            int w = what;
            // no such VERSE
            due(() -> Boxes.told(NEVER).keeps(1, w), -1);
            due(() -> Boxes.told(NEVER).keeps(2, w), -1);
            // no line: it is OPEN
            due(() -> Boxes.told("bar 2 at 1;").keeps(1, w), -1);
            due(() -> new NineBars().keeps(1, w), -1);
            due(() -> new NineBars().keeps(2, w), -1);
            // one line
            due(() -> Boxes.told("bar 2;").keeps(2, w), -1);
            due(() -> Boxes.told("bar 2;").keeps(1, w), w == 0 ? 1 : w == 1 ? 0 : -1);
        }
        words("that with n lines kept, all others told, most VERSES are as told; of like ones the first.");
        NineBars last = Boxes.told("bar 2;bar 2;bar 2;rule 1 0 to 1 if 0 at 1;");
        due(() -> last.keeps(2, 0), 2);
        due(() -> last.keeps(2, 1), 1);
        due(() -> last.keeps(2, 2), 2);
        NineBars alike = Boxes.told("bar 2;bar 2;bar 2;");
        due(() -> alike.keeps(2, 1), 0);
        due(() -> alike.keeps(2, 2), 1);
        NineBars rings = Boxes.told(RINGS);
        due(() -> rings.keeps(2, 0), 1);
        due(() -> rings.keeps(2, 1), 0);
        due(() -> rings.keeps(2, 2), 1);
        String[] texts = {"bar 3;bar 3;", "bar 2 open 0;bar 3;rule 1 0 to 1 if 0 at 1;rule 1 1 to 2 if 0 at 0;", "bar 4;bar 2;bar 2;nested 3;",
            "bar 2 open 0;bar 2;bar 2 open 0;bar 2 open 0;rule 1 0 to 1 if 0 at 1;rule 1 0 to 1 if 2 at 1;rule 1 0 to 1 if 3 at 1;",
            "bar 3 at 1 open 1;bar 4;rule 1 0 to 1 if 0 at 0;rule 1 1 to 2 if 0 at 2;rule 1 2 to 3 if 0 at 0;",
            "bar 4 at 3 open 0;bar 3 at 2 open 0;bar 2;rule 0 1 to 0 if 2 at 1;rule 1 1 to 0 if 2 at 0;"};
        for (String text : texts) {
            NineBars y = Boxes.told(text);
            Model model = new Model();
            Boxes.tell(model, text);
            for (int n = 1; n <= 2; n++) {
                for (int what = 0; what <= 2; what++) {
                    int k = n;
                    int w = what;
                    due(text, () -> y.keeps(k, w), model.keeps(k, w));
                }
            }
        }
    }

    private static void keepsForty() {
        words("of the SHORTEST VERSE from now to OPEN (at most 40 STEPS)");
        for (int n = 1; n <= 2; n++) {
            int kept = n;
            for (int far : new int[] {39, 40, 41, 42, 63}) {
                NineBars x = Boxes.told(Boxes.oneWay(0, far));
                due(() -> x.keeps(kept, 0), far <= 40 ? 1 : -1);
                due(() -> x.keeps(kept, 1), far <= 40 ? 0 : -1);
                due(() -> x.keeps(kept, 2), far <= 40 && kept == 2 ? 1 : -1);
            }
        }
    }

    private static void fits() {
        words("FITS for a STEP (its number, as of a VERSE) by what is TOLD, k NONE: how many, else the k-th: 100 times the BAR, 10 if not, and the PLACE; NONE: not so many.");
        NineBars x = Boxes.told("bar 4;bar 2;bar 3;");
        x.tray(0, 0, 0);
        long[] facts = {0, 1, 2, 3, 10, 11, 12, 13, 200, 201, 202, 210, 211, 212};
        for (int k = -3; k <= 16; k++) {
            int i = k;
            due(() -> x.fits(2, 0, i), i == -1 ? 14 : i >= 0 && i < 14 ? facts[i] : -1);
        }
        due(() -> x.fits(2, 0, Integer.MIN_VALUE), -1);
        due(() -> x.fits(2, 0, Integer.MAX_VALUE), -1);
        NineBars alone = Boxes.told("bar 4;");
        alone.tray(0, 0, 0);
        due(() -> alone.fits(0, 0, -1), 0);
        due(() -> alone.fits(1, 0, 0), -1);
        words("NoSuchElementException: its BAR, the TRAY; IllegalStateException: it is MISSING, SPENT; IllegalArgumentException: a number that is none such.");
        for (int step : new int[] {Integer.MIN_VALUE, -3, -2, -1, 6, 7, 18, Integer.MAX_VALUE}) {
            refused(() -> x.fits(step, 0, -1), NO_SUCH);
            refused(() -> x.tries(step, 0, 0), NO_SUCH);
        }
        for (int step = 0; step <= 5; step++) {
            int so = step;
            due(() -> x.fits(so, 0, -1), so < 2 ? 10 : so < 4 ? 14 : 12);
        }
        NineBars nine = Boxes.told("bar 2;".repeat(9));
        nine.tray(0, 0, 0);
        due(() -> nine.fits(17, 0, -1), 32);
        due(() -> nine.fits(17, 0, 31), 711);
        refused(() -> nine.fits(18, 0, -1), NO_SUCH);
        for (int t : NO_TRAYS) {
            refused(() -> x.fits(0, t, -1), NO_SUCH);
            refused(() -> x.tries(0, t, 0), NO_SUCH);
        }
        for (int t = 1; t <= 3; t++) {
            int tray = t;
            refused(() -> x.fits(0, tray, -1), STATE);
            refused(() -> x.tries(0, tray, 0), STATE);
        }
        refused(() -> new NineBars().fits(0, 0, -1), NO_SUCH);
    }

    private static void toldNumbers() {
        words("TOLD in a TRAY for a STEP: numbers 2 times a STAND, and 1 more if it went from it.");
        NineBars x = Boxes.told("bar 4;bar 2;bar 3;");
        long[] none = {-1, -2, 48, 49, 96, -128, 127};
        for (long v : none) {
            Boxes.lay(x, 0, 0, v);
            refused(() -> x.fits(0, 0, -1), ARGUMENT);
            refused(() -> x.tries(0, 0, 0), ARGUMENT);
            Boxes.lay(x, 0, 0, 0, 2, v);
            refused(() -> x.fits(0, 0, -1), ARGUMENT);
        }
        long[] far = {1L << 32, (1L << 32) + 1, (1L << 33), -(1L << 32), Long.MIN_VALUE, Long.MAX_VALUE};
        for (long v : far) {
            Boxes.lay(x, 0, 3, v);
            refused(() -> x.fits(0, 0, -1), ARGUMENT);
            refused(() -> x.tries(0, 0, 1), ARGUMENT);
        }
        for (long v : new long[] {0, 1, 46, 47}) {
            Boxes.lay(x, 0, 0, v);
            due(() -> x.fits(0, 0, -1), 5);
        }
        // told of the last STAND: bar 1 at 1, bar 2 at 2; it went
        Boxes.lay(x, 0, 0, 47);
        long[] went = {101, 110, 202, 210, 211};
        Boxes.lay(x, 1, 0, 46);
        long[] not = {100, 111, 200, 201, 212};
        for (int k = 0; k < 5; k++) {
            int i = k;
            due(() -> x.fits(0, 0, i), went[i]);
            due(() -> x.fits(0, 1, i), not[i]);
        }
        NineBars last = Boxes.told(LAST_FEW);
        Boxes.lay(last, 0, 2, 2 * 19682 + 1);
        due(() -> last.fits(0, 0, -1), 24);
        Boxes.lay(last, 0, 2, 2 * 19683);
        refused(() -> last.fits(0, 0, -1), ARGUMENT);
        long[] all = new long[40];
        Arrays.fill(all, 47);
        Boxes.lay(x, 2, 1, all);
        due(() -> x.fits(0, 2, -1), 5);
        x.write(2, 39, 46);
        due(() -> x.fits(0, 2, -1), 0);
        x.write(2, 39, 48);
        refused(() -> x.fits(0, 2, -1), ARGUMENT);
    }

    private static void fitsOrder() {
        words("FITS are single FACTS of other BARS that would let it go just as told, by BARS, at ahead of not, PLACES");
        NineBars x = Boxes.told("bar 2;bar 4;bar 3;");
        // went with bar 1 at 1, bar 2 at 0; didn't with bar 1 at 2, bar 2 at 0
        Boxes.lay(x, 0, 0, 2 * (2 * 1) + 1, 2 * (2 * 2));
        due(() -> x.fits(0, 0, -1), 2);
        due(() -> x.fits(0, 0, 0), 101);
        due(() -> x.fits(0, 0, 1), 112);
        due(() -> x.fits(0, 0, 2), -1);
        // of its own BAR nothing is a FACT
        due(() -> x.fits(2, 0, -1), 0);
        // it went and it didn't
        Boxes.lay(x, 0, 0, 5, 4);
        due(() -> x.fits(0, 0, -1), 0);
        due(() -> x.tries(0, 0, 0), -1);
    }

    private static void tries() {
        words("TRY, what 0: the STAND, 1: how many FITS are left at worst; NONE: fewer than 2 FIT.");
        NineBars x = Boxes.told("bar 2;bar 3;");
        // none fits
        Boxes.lay(x, 0, 0, 0, 1);
        due(() -> x.tries(0, 0, 0), -1);
        due(() -> x.tries(0, 0, 1), -1);
        // 1 at 2 alone
        Boxes.lay(x, 0, 0, 0, 4);
        due(() -> x.fits(0, 0, -1), 1);
        due(() -> x.tries(0, 0, 0), -1);
        due(() -> x.tries(0, 0, 1), -1);
        // two: 1 at 2, 1 not 0, which part with bar 1 at 1
        Boxes.lay(x, 0, 0, 0, 9);
        due(() -> x.fits(0, 0, -1), 2);
        due(() -> x.tries(0, 0, 0), 2);
        due(() -> x.tries(0, 0, 1), 1);
        // three: 1 at 0, 1 not 1, 1 not 2: with bar 1 at 0 all go, at 1 one does
        NineBars three = Boxes.told("bar 2;bar 3;");
        Boxes.lay(three, 0, 0, 1);
        due(() -> three.fits(0, 0, 0), 100);
        due(() -> three.tries(0, 0, 0), 2);
        due(() -> three.tries(0, 0, 1), 2);
        // two that never part: 1 at 1, 1 not 0
        NineBars two = Boxes.told("bar 2;bar 2;");
        Boxes.lay(two, 0, 0, 0);
        due(() -> two.fits(0, 0, -1), 2);
        due(() -> two.tries(0, 0, 0), 0);
        due(() -> two.tries(0, 0, 1), 2);
        words("Throws likewise; IllegalArgumentException: also another what.");
        for (int what : new int[] {Integer.MIN_VALUE, -1, 2, 3, Integer.MAX_VALUE}) {
            refused(() -> x.tries(0, 0, what), ARGUMENT);
            refused(() -> two.tries(0, 0, what), ARGUMENT);
            refused(() -> x.tries(4, 0, what), NO_SUCH);
            refused(() -> x.tries(0, 4, what), NO_SUCH);
            refused(() -> x.tries(0, 1, what), STATE);
        }
        words("TRY: the STAND from which the fewest FITS are left at worst, whether it goes or not (the least such STAND).");
        NineBars last = Boxes.told("bar 2;bar 4;bar 4;");
        // didn't go from where bars 1 and 2 are at 0
        Boxes.lay(last, 0, 0, 0);
        Model y = new Model();
        Boxes.tell(y, "bar 2;bar 4;bar 4;");
        y.tray(0, 0, 1);
        due(() -> last.fits(1, 0, -1), 8);
        due(() -> last.tries(1, 0, 0), y.tries(1, 0, 0));
        due(() -> last.tries(1, 0, 1), y.tries(1, 0, 1));
        NineBars none = Boxes.told("bar 4;");
        none.tray(0, 0, 0);
        due(() -> none.tries(0, 0, 0), -1);
    }

    private static void rows() {
        words("ROWS of n (0 to 20) STEPS that GO, one behind the other, from now; those of them that are OPEN sometime (at once, too).");
        NineBars x = Boxes.told(FREE);
        for (int n : new int[] {Integer.MIN_VALUE, -1, 21, 22, Integer.MAX_VALUE}) {
            refused(() -> x.rows(n, false), ARGUMENT);
            refused(() -> x.rows(n, true), ARGUMENT);
            refused(() -> Boxes.told(FIRST_SPENT).rows(n, true), ARGUMENT);
        }
        for (int n = 0; n <= 20; n++) {
            int many = n;
            due(() -> x.rows(many, false), 1L << many);
            due(() -> x.rows(many, true), (1L << many) - (1L << (many + 1) / 2));
            due(() -> Boxes.told("bar 2 at 1;bar 2 at 1;").rows(many, true), 1L << many);
            due(() -> new NineBars().rows(many, true), many == 0 ? 1 : 0);
            due(() -> new NineBars().rows(many, false), many == 0 ? 1 : 0);
            due(() -> Boxes.told(Boxes.oneWay(51, 63)).rows(many, false), many <= 12 ? 1 : 0);
            due(() -> Boxes.told(Boxes.oneWay(40, 52)).rows(many, true), many >= 12 ? 1 : 0);
            due(() -> Boxes.told(Boxes.oneWay(40, 40)).rows(many, true), 1);
            due(() -> Boxes.told(Boxes.oneWay(40, 39)).rows(many, true), 0);
        }
    }

    private static void rowsLost() {
        words("ROWS of n STEPS (opening: those that are OPEN sometime), as a long (what is above it is lost)");
        // 9 bars that start in the middle of 3 places: k steps of one can be made in 2^((k + 1) / 2) rows
        BigInteger[] rows = {BigInteger.ONE};
        rows = Arrays.copyOf(rows, 21);
        Arrays.fill(rows, 1, 21, BigInteger.ZERO);
        for (int b = 0; b < 9; b++) {
            BigInteger[] more = new BigInteger[21];
            for (int n = 0; n <= 20; n++) {
                more[n] = BigInteger.ZERO;
                BigInteger choose = BigInteger.ONE;
                for (int k = 0; k <= n; k++) {
                    more[n] = more[n].add(choose.multiply(rows[n - k]).shiftLeft((k + 1) / 2));
                    choose = choose.multiply(BigInteger.valueOf(n - k)).divide(BigInteger.valueOf(k + 1));
                }
            }
            rows = more;
        }
        NineBars x = Boxes.told("bar 3 at 1;".repeat(9));
        due(() -> x.rows(1, false), 18);
        for (int n = 0; n <= 20; n++) {
            int many = n;
            long want = rows[n].longValue();
            due(() -> x.rows(many, false), want);
        }
        BigInteger most = rows[20];
        due(() -> is(most.bitLength() > 64), 1);
        String seven = "bar 3 at 1;".repeat(7);
        Model y = new Model();
        Boxes.tell(y, seven);
        due(() -> Boxes.told(seven).rows(20, true), y.rows(20, true));
    }

    private static void keys() {
        words("the fewest STEPS by which the first can have it so, whatever the other does (both turns count, passing, too; at most 60; 0 if it is OPEN).");
        for (int far = 0; far <= 63; far++) {
            int steps = far;
            due(() -> Boxes.told(Boxes.oneWay(0, steps)).keys(), steps <= 60 ? steps : -1);
        }
        due(() -> Boxes.told(Boxes.oneWay(3, 63)).keys(), 60);
        due(() -> Boxes.told(Boxes.oneWay(2, 63)).keys(), -1);
        for (int from = 0; from < 64; from++) {
            for (int far : new int[] {1, 2, 5, 16, 31}) {
                int p = from;
                due(() -> Boxes.told(Boxes.oneWay(p, (p + far) % 64)).keys(), p + far < 64 ? far : -1);
            }
        }
        // the other's turn is at stand 0
        due(() -> Boxes.told("bar 2 at 1 open 0;bar 2;rule 0 0 to 1 if 1 at 1;rule 1 0 to 1 if 0 at 0;").keys(), 2);
        words("whatever the other does");
        // bar 0 at 1: 1 up; 0 down; 1 up; then bar 0 up opens it, but bar 1 up ends it
        String fork = "rule 0 1 to 0 if 1 at 1;rule 0 0 to 1 if 1 at 2;rule 1 0 to 1 if 0 at 1;rule 1 1 to 2 if 0 at 0;"
                + "rule 1 2 to 3 if 0 at 0;rule 1 1 to 0 if 0 at 0 and 0 at 1;rule 1 2 to 1 if 0 at 0 and 0 at 1;rule 1 3 to 2 if 0 at 0 and 0 at 1;";
        due(() -> Boxes.told("bar 2 at 1 open 1;bar 4 open 2;" + fork).keys(), -1);
        due(() -> Boxes.told("bar 2 at 1 open 1;bar 4 at 1 open 2;" + fork).keys(), 3);
        due(() -> Boxes.told("bar 2 open 1;bar 4 at 1 open 2;" + fork).keys(), -1);
        due(() -> Boxes.told("bar 2 open 1;bar 4 at 2 open 2;" + fork).keys(), 1);
        due(() -> Boxes.told("bar 2 at 1 open 1;bar 4 at 1 open 2;" + fork).opening(-1), 3);
        due(() -> Boxes.told("bar 2 at 1;").keys(), 0);
        due(() -> Boxes.told("bar 2;").keys(), 1);
        due(() -> Boxes.told("bar 3;").keys(), -1);
        due(() -> Boxes.told(FREE).keys(), -1);
        due(() -> new NineBars().keys(), 0);
        words("KEYS: two hold a key each, and make a STEP by turns (one who can't passes); the first wants it OPEN, the other doesn't");
        due(() -> Boxes.told(Boxes.oneWay(63, 0)).keys(), -1);
        due(() -> Boxes.told(NEVER + "rule 1 0 to 1 if 0 at 1;").keys(), -1);
        words("KEYS; NONE: not within 60.");
        due(() -> Boxes.told(NEVER).keys(), -1);
    }
}
