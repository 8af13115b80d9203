import java.util.Arrays;

/** The bounds that the document names of BARS, STANDS and STEPS (promises 5 to 15). */
public final class StepBoundsTest extends Check {
    private static final String LAST_FEW = "bar 3;".repeat(9);
    private static final String FIRST_SPENT = "bar 4;bar 4;bar 4;bar 4;bar 3;bar 3;bar 3;bar 3;";
    private static final int[] FAR = {Integer.MIN_VALUE, -2, -1, 9, 10, 1 << 30, Integer.MAX_VALUE};

    public static void main(String[] args) {
        bar();
        stepsMade();
        worn();
        rule();
        stand();
        placeIn();
        isOpen();
        noBar();
        noPlace();
        nestedSteps();
        freeBars();
        shutSteps();
        leastReason();
        step();
        stops();
        stopsLeast();
        judge();
        judgeOpen();
        judgeNumbers();
        perform();
        thief();
        thiefDraws();
        thiefStops();
        end("StepBoundsTest");
    }

    private static void bar() {
        words("Of a BAR, what 0: how many PLACES, 1: its PLACE, 2: where it is OPEN, 3: STEPS it made, 4: 1 if WORN, else 0, 5: RULES of it.");
        NineBars x = Boxes.told("bar 4 at 2 open 1;bar 2;rule 0 2 to 3 if 1 at 0;rule 0 2 to 1 if 1 at 0;rule 1 0 to 1 if 0 at 2;wear 1;");
        x.step(0, true);
        long[][] want = {{4, 3, 1, 1, 1, 2}, {2, 0, 1, 0, 0, 1}};
        for (int b = 0; b < 2; b++) {
            for (int what = -2; what <= 8; what++) {
                int i = b;
                int k = what;
                dueIf(() -> x.bar(i, k), k >= 0 && k <= 5, k >= 0 && k <= 5 ? want[i][k] : 0, ARGUMENT);
            }
        }
        NineBars full = Boxes.told("bar 2;bar 2;" + "rule 1 0 to 1 if 0 at 0;".repeat(24));
        due(() -> full.bar(0, 5), 0);
        due(() -> full.bar(1, 5), 24);
        words("no such BAR (as everywhere)");
        for (int n = 0; n <= 9; n++) {
            int bars = n;
            NineBars y = Boxes.told("bar 2;".repeat(bars));
            for (int i = -2; i <= 10; i++) {
                int b = i;
                dueIf(() -> y.bar(b, 0), b >= 0 && b < bars, 2, NO_SUCH);
            }
            refused(() -> y.bar(Integer.MIN_VALUE, 0), NO_SUCH);
            refused(() -> y.bar(Integer.MAX_VALUE, 0), NO_SUCH);
        }
        words("IllegalArgumentException: another what.");
        refused(() -> x.bar(0, Integer.MIN_VALUE), ARGUMENT);
        refused(() -> x.bar(0, Integer.MAX_VALUE), ARGUMENT);
    }

    private static void stepsMade() {
        words("3: STEPS it made");
        NineBars x = Boxes.told("bar 2;bar 3;");
        due(() -> x.bar(0, 3), 0);
        x.step(0, false);
        due(() -> x.bar(0, 3), 0);
        x.step(0, true);
        x.step(0, true);
        due(() -> x.bar(0, 3), 1);
        x.step(0, false);
        x.step(1, true);
        due(() -> x.bar(0, 3), 2);
        due(() -> x.bar(1, 3), 1);
        Boxes.tell(x, "bar 2;bar 3;");
        due(() -> x.bar(0, 3), 0);
    }

    private static void worn() {
        words("WORN is a BAR that has made as many STEPS as wear since the TEXT (never, if wear is 0).");
        for (int wear : new int[] {0, 1, 2, 3, 98, 99}) {
            NineBars x = Boxes.told("bar 2;bar 2;wear " + wear + ";");
            for (int made = 0; made <= wear + 2; made++) {
                int so = made;
                due(() -> x.bar(0, 4), is(wear > 0 && so >= wear));
                x.step(0, so % 2 == 0);
            }
            due(() -> x.bar(1, 4), 0);
        }
        NineBars y = Boxes.told("bar 2;wear 2;");
        y.step(0, true);
        y.step(0, true);
        due(() -> y.bar(0, 4), 0);
        y.step(0, false);
        due(() -> y.bar(0, 4), 1);
        Boxes.tell(y, "bar 2;wear 2;");
        due(() -> y.bar(0, 4), 0);
        words("(all its FACTS are so: at, not at that PLACE), and the BAR isn't WORN.");
        NineBars shut = Boxes.told("bar 2;bar 2;rule 0 0 to 1 if 1 at 0;wear 2;");
        shut.step(0, true);
        shut.step(1, true);
        shut.step(0, false);
        due(() -> shut.may(0, true), 0);
        NineBars less = Boxes.told("bar 2;bar 2;rule 0 0 to 1 if 1 at 0;wear 3;");
        less.step(0, true);
        less.step(1, true);
        less.step(0, false);
        due(() -> less.may(0, true), 4);
        NineBars never = Boxes.told("bar 2;bar 2;rule 0 0 to 1 if 1 at 0;wear 0;");
        never.step(0, true);
        never.step(1, true);
        never.step(0, false);
        due(() -> never.may(0, true), 4);
    }

    private static void rule() {
        words("Of a RULE (as they were told, from 0 on), what 0: its BAR, 1: from, 2: to, 3: FACTS, 4: 1 if it HOLDS, else 0.");
        NineBars x = Boxes.told("bar 4;bar 2;rule 0 3 to 2 if 1 at 0 and 1 not 1;rule 1 0 to 1 if 0 at 3;");
        long[][] want = {{0, 3, 2, 2, 1}, {1, 0, 1, 1, 0}};
        for (int r = 0; r < 2; r++) {
            for (int what = -2; what <= 7; what++) {
                int i = r;
                int k = what;
                dueIf(() -> x.rule(i, k), k >= 0 && k <= 4, k >= 0 && k <= 4 ? want[i][k] : 0, ARGUMENT);
            }
        }
        refused(() -> x.rule(0, Integer.MIN_VALUE), ARGUMENT);
        refused(() -> x.rule(0, Integer.MAX_VALUE), ARGUMENT);
        words("no such RULE");
        for (int n : new int[] {0, 1, 23, 24}) {
            int rules = n;
            NineBars y = Boxes.told("bar 2;bar 2;" + "rule 0 0 to 1 if 1 at 0;".repeat(n));
            for (int r : new int[] {Integer.MIN_VALUE, -1, 0, n - 1, n, 24, 25, Integer.MAX_VALUE}) {
                dueIf(() -> y.rule(r, 2), r >= 0 && r < rules, 1, NO_SUCH);
            }
        }
        words("(all its FACTS are so: at, not at that PLACE)");
        NineBars z = Boxes.told("bar 2;bar 2;bar 2;bar 2;bar 2;rule 0 0 to 1 if 1 at 1 and 2 not 0 and 3 at 1 and 4 not 0;");
        for (int bits = 0; bits < 16; bits++) {
            for (int b = 0; b < 4; b++) {
                z.step(b + 1, (bits >> b & 1) == 1);
            }
            int so = bits;
            due(() -> z.rule(0, 4), is(so == 15));
            due(() -> z.may(0, true), so == 15 ? 0 : 4);
        }
    }

    private static void stand() {
        words("STANDS: PLACES of all BARS, as a number: PLACE of BAR 0, PLACES of BAR 0 times PLACE of BAR 1, and so on.");
        due(() -> Boxes.told("bar 3 at 2;").stand(), 2);
        due(() -> Boxes.told("bar 3 at 2;bar 4 at 3;bar 2 at 1;").stand(), 2 + 3 * 3 + 12);
        due(() -> Boxes.told("bar 2 at 1;bar 3;bar 4 at 1;").stand(), 1 + 6);
        due(() -> Boxes.told("bar 3 at 2;".repeat(9)).stand(), 19682);
        due(() -> Boxes.told("bar 3;bar 3;").stand(), 0);
        words("if there are more than 20,000 STANDS it is SPENT (-1000).");
        due(() -> Boxes.told(LAST_FEW).count(5), 19683);
        due(() -> Boxes.told(LAST_FEW).stand(), 0);
        due(() -> Boxes.told(FIRST_SPENT).count(5), 20736);
        due(() -> Boxes.told(FIRST_SPENT).stand(), -1000);
        due(() -> Boxes.told("bar 4;".repeat(9)).stand(), -1000);
        words("The STAND now; SPENT.");
        due(() -> new NineBars().stand(), 0);
        NineBars x = Boxes.told(LAST_FEW);
        x.step(8, true);
        due(x::stand, 6561);
        NineBars spent = Boxes.told(FIRST_SPENT);
        due(() -> spent.step(0, true), 1);
        due(spent::stand, -1000);
        due(() -> spent.bar(0, 1), 1);
    }

    private static void placeIn() {
        words("The PLACE of a BAR in a STAND. NoSuchElementException: the BAR, STAND; IllegalStateException: SPENT.");
        NineBars x = Boxes.told("bar 3 at 1;bar 2;bar 4;");
        for (int s = 0; s < 24; s++) {
            int stand = s;
            due(() -> x.placeIn(stand, 0), stand % 3);
            due(() -> x.placeIn(stand, 1), stand / 3 % 2);
            due(() -> x.placeIn(stand, 2), stand / 6);
        }
        for (int s : new int[] {Integer.MIN_VALUE, -1, 24, 25, Integer.MAX_VALUE}) {
            refused(() -> x.placeIn(s, 0), NO_SUCH);
        }
        for (int b : new int[] {Integer.MIN_VALUE, -1, 3, 9, Integer.MAX_VALUE}) {
            refused(() -> x.placeIn(0, b), NO_SUCH);
        }
        NineBars few = Boxes.told(LAST_FEW);
        due(() -> few.placeIn(19682, 8), 2);
        refused(() -> few.placeIn(19683, 8), NO_SUCH);
        NineBars spent = Boxes.told(FIRST_SPENT);
        refused(() -> spent.placeIn(0, 0), STATE);
        refused(() -> spent.placeIn(20735, 7), STATE);
        refused(() -> spent.placeIn(20736, 7), NO_SUCH);
        refused(() -> spent.placeIn(-1, 7), NO_SUCH);
        refused(() -> spent.placeIn(0, 8), NO_SUCH);
        refused(() -> new NineBars().placeIn(0, 0), NO_SUCH);
    }

    private static void isOpen() {
        words("Whether it is OPEN (without BARS it is).");
        due(() -> is(new NineBars().isOpen()), 1);
        NineBars x = Boxes.told("bar 2;");
        due(() -> is(x.isOpen()), 0);
        x.box(0);
        due(() -> is(x.isOpen()), 1);
        words("OPEN is the STAND in which all are OPEN.");
        for (int b = 0; b < 9; b++) {
            int one = b;
            due(() -> is(Boxes.told("bar 2 at 1;".repeat(one) + "bar 2;" + "bar 2 at 1;".repeat(8 - one)).isOpen()), 0);
        }
        due(() -> is(Boxes.told("bar 2 at 1;".repeat(9)).isOpen()), 1);
        due(() -> is(Boxes.told("bar 4 at 3;".repeat(9)).isOpen()), 1);
        due(() -> is(Boxes.told("bar 4 at 2 open 2;bar 3 open 0;").isOpen()), 1);
    }

    private static void noBar() {
        words("1 no such BAR");
        for (int n : new int[] {0, 1, 8, 9}) {
            NineBars x = Boxes.told("bar 2;".repeat(n));
            for (int i = -2; i <= 10; i++) {
                int b = i;
                long why = b < 0 || b >= n ? 1 : 0;
                due(() -> x.may(b, true), why);
                due(() -> x.may(b, false), why == 1 ? 1 : 2);
            }
            for (int b : FAR) {
                due(() -> x.may(b, true), 1);
                due(() -> x.may(b, false), 1);
            }
        }
    }

    private static void noPlace() {
        words("A STEP of a BAR goes from its PLACE to the one above (up) or below.");
        words("2 there is no PLACE");
        for (int places = 2; places <= 4; places++) {
            for (int at = 0; at < places; at++) {
                NineBars x = Boxes.told("bar " + places + " at " + at + ";");
                long up = at == places - 1 ? 2 : 0;
                long down = at == 0 ? 2 : 0;
                int now = at;
                due(() -> x.may(0, true), up);
                due(() -> x.may(0, false), down);
                due(() -> x.step(0, true), up == 2 ? -2 : now + 1);
                NineBars y = Boxes.told("bar " + places + " at " + at + ";");
                due(() -> y.step(0, false), down == 2 ? -2 : now - 1);
            }
        }
    }

    private static void nestedSteps() {
        words("3 it is NESTED (one of so many first BARS, the STEP between 0 and 1), and not free");
        NineBars x = Boxes.told("bar 4;bar 4;bar 4;bar 4;nested 3;");
        due(() -> x.may(1, true), 3);
        due(() -> x.may(2, true), 3);
        due(() -> x.may(3, true), 0);
        NineBars one = Boxes.told("bar 4;bar 4 at 1;bar 4 at 1;bar 4 at 1;nested 3;");
        due(() -> one.may(1, false), 3);
        due(() -> one.may(1, true), 0);
        due(() -> one.may(2, true), 0);
        due(() -> one.may(3, false), 0);
        NineBars two = Boxes.told("bar 4;bar 4 at 2;bar 4 at 2;nested 3;");
        due(() -> two.may(1, false), 0);
        due(() -> two.may(1, true), 0);
        due(() -> two.may(2, false), 0);
        NineBars least = Boxes.told("bar 2;bar 2;bar 2;nested 2;");
        due(() -> least.may(1, true), 3);
        due(() -> least.may(2, true), 0);
        NineBars all = Boxes.told("bar 2;".repeat(9) + "nested 9;");
        NineBars eight = Boxes.told("bar 2;".repeat(9) + "nested 8;");
        due(() -> all.may(8, true), 3);
        due(() -> eight.may(8, true), 0);
        due(() -> eight.may(7, true), 3);
        due(() -> Boxes.told("bar 2;bar 2;").may(1, true), 0);
    }

    private static void freeBars() {
        words("BAR 0 is; BAR k, if BAR k less 1 is at 1 and all before that one are at 0");
        for (int stand = 0; stand < 81; stand++) {
            int[] at = {stand % 3, stand / 3 % 3, stand / 9 % 3, stand / 27};
            StringBuilder text = new StringBuilder();
            for (int p : at) {
                text.append("bar 3 at ").append(p).append(';');
            }
            NineBars x = Boxes.told(text + "nested 4;");
            for (int k = 0; k < 4; k++) {
                boolean free = k == 0 || at[k - 1] == 1;
                for (int c = 0; c < k - 1; c++) {
                    free = free && at[c] == 0;
                }
                int b = k;
                due(() -> x.may(b, true), at[b] == 2 ? 2 : at[b] == 0 && !free ? 3 : 0);
                due(() -> x.may(b, false), at[b] == 0 ? 2 : at[b] == 1 && !free ? 3 : 0);
            }
        }
        NineBars last = Boxes.told("bar 2;".repeat(7) + "bar 2 at 1;bar 2;nested 9;");
        due(() -> last.may(8, true), 0);
        due(() -> last.may(7, false), 3);
        due(() -> last.may(0, true), 0);
        NineBars one = Boxes.told("bar 2 at 1;" + "bar 2;".repeat(6) + "bar 2 at 1;bar 2;nested 9;");
        due(() -> one.may(8, true), 3);
    }

    private static void shutSteps() {
        words("4 there are RULES from that PLACE to that one, none of them HOLDS");
        NineBars x = Boxes.told("bar 4 at 1;bar 2;rule 0 1 to 2 if 1 at 1;");
        due(() -> x.may(0, true), 4);
        due(() -> x.may(0, false), 0);
        x.step(0, false);
        due(() -> x.may(0, true), 0);
        NineBars back = Boxes.told("bar 4 at 2;bar 2;rule 0 1 to 2 if 1 at 1;");
        due(() -> back.may(0, false), 0);
        due(() -> back.may(0, true), 0);
        due(() -> back.may(1, true), 0);
        NineBars holds = Boxes.told("bar 2;bar 2;rule 0 0 to 1 if 1 at 0;");
        due(() -> holds.may(0, true), 0);
        NineBars several = Boxes.told("bar 2;bar 3;rule 0 0 to 1 if 1 at 1;rule 0 0 to 1 if 1 at 2;");
        due(() -> several.may(0, true), 4);
        several.step(1, true);
        due(() -> several.may(0, true), 0);
        several.step(1, true);
        due(() -> several.may(0, true), 0);
        NineBars last = Boxes.told("bar 2;bar 2;" + "rule 0 0 to 1 if 1 at 1;".repeat(23) + "rule 0 0 to 1 if 1 at 0;");
        due(() -> last.may(0, true), 0);
        NineBars none = Boxes.told("bar 2;bar 2;" + "rule 0 0 to 1 if 1 at 1;".repeat(24));
        due(() -> none.may(0, true), 4);
        NineBars both = Boxes.told("bar 2;bar 2;rule 0 0 to 1 if 1 at 0 and 1 at 1;");
        due(() -> both.may(0, true), 4);
    }

    private static void leastReason() {
        words("It GOES, if not, the least of");
        words("Why a STEP doesn't GO; 0.");
        // no PLACE, and what would be nested or shut from there
        NineBars x = Boxes.told("bar 2;bar 2;bar 2;nested 3;rule 1 0 to 1 if 0 at 1;");
        due(() -> x.may(1, false), 2);
        // NESTED and shut
        due(() -> x.may(1, true), 3);
        // NESTED, and its RULE would hold
        NineBars y = Boxes.told("bar 2;bar 2;nested 2;rule 1 0 to 1 if 0 at 0;");
        due(() -> y.may(1, true), 3);
        // free, but shut
        y.step(0, true);
        due(() -> y.may(1, true), 4);
        // WORN doesn't free what is NESTED
        NineBars z = Boxes.told("bar 2;bar 2;nested 2;rule 1 0 to 1 if 0 at 0;wear 1;");
        z.step(0, true);
        due(() -> z.may(1, true), 4);
        due(() -> z.step(1, true), -4);
        NineBars worn = Boxes.told("bar 2;bar 2;nested 2;wear 2;");
        worn.step(0, true);
        worn.step(1, true);
        worn.step(1, false);
        worn.step(0, false);
        due(() -> worn.bar(1, 4), 1);
        due(() -> worn.may(1, true), 3);
        due(() -> worn.may(1, false), 2);
        due(() -> worn.may(0, true), 0);
        // no BAR ahead of all
        due(() -> worn.may(2, false), 1);
    }

    private static void step() {
        words("A STEP: the BAR's PLACE then; below 0: less why it doesn't GO (nothing happens).");
        NineBars x = Boxes.told("bar 2;bar 4;bar 2;nested 3;rule 1 1 to 2 if 0 at 0;");
        due(() -> x.step(3, true), -1);
        due(() -> x.step(-1, true), -1);
        for (int b : FAR) {
            due(() -> x.step(b, true), -1);
            due(() -> x.step(b, false), -1);
        }
        due(() -> x.step(0, false), -2);
        due(() -> x.step(1, true), -3);
        due(x::stand, 0);
        due(() -> x.count(6), 0);
        due(() -> x.step(0, true), 1);
        due(() -> x.step(1, true), 1);
        due(() -> x.step(1, true), -4);
        due(() -> x.step(0, true), -2);
        due(x::stand, 3);
        due(() -> x.count(6), 2);
        due(() -> x.step(0, false), 0);
        due(() -> x.step(1, true), 2);
        due(() -> x.step(1, true), 3);
        due(() -> x.step(1, true), -2);
        due(() -> x.step(1, false), 2);
        due(() -> new NineBars().step(0, true), -1);
    }

    private static void stops() {
        words("NONE: it GOES, or nothing does.");
        NineBars x = Boxes.told("bar 2;bar 2;bar 2;nested 3;");
        due(() -> x.stops(0, true), -1);
        due(() -> x.stops(0, false), -1);
        due(() -> x.stops(1, false), -1);
        due(() -> x.stops(1, true), 0);
        for (int b : FAR) {
            due(() -> x.stops(b, true), -1);
            due(() -> x.stops(b, false), -1);
        }
        due(() -> x.stops(3, true), -1);
        due(() -> new NineBars().stops(0, true), -1);
        NineBars never = Boxes.told("bar 2;bar 2;rule 0 0 to 1 if 1 at 0 and 1 at 1;");
        due(() -> never.stops(0, true), -1);
        // in none of its PLACES: there is no further one
        NineBars past = Boxes.told("bar 2;bar 2;rule 0 0 to 1 if 1 not 0 and 1 not 1;");
        due(() -> past.stops(0, true), -1);
        NineBars two = Boxes.told("bar 2;bar 2;bar 2;rule 0 0 to 1 if 1 at 1 and 2 at 1;");
        due(() -> two.stops(0, true), -1);
        NineBars worn = Boxes.told("bar 2;bar 2;rule 0 0 to 1 if 1 at 1;wear 2;");
        due(() -> worn.stops(0, true), 1);
        worn.step(1, true);
        worn.step(0, true);
        worn.step(0, false);
        worn.step(1, false);
        due(() -> worn.stops(0, true), -1);
    }

    private static void stopsLeast() {
        words("The least other BAR whose standing otherwise (in some PLACE, all others as they are) would let a STEP go that does not");
        NineBars either = Boxes.told("bar 2;bar 2;bar 2;bar 2;rule 1 0 to 1 if 3 at 1;rule 1 0 to 1 if 2 at 1;");
        due(() -> either.stops(1, true), 2);
        NineBars first = Boxes.told("bar 2;bar 2;bar 2;rule 2 0 to 1 if 1 at 1;rule 2 0 to 1 if 0 at 1;");
        due(() -> first.stops(2, true), 0);
        NineBars last = Boxes.told("bar 2;".repeat(9) + "rule 0 0 to 1 if 8 at 1;");
        due(() -> last.stops(0, true), 8);
        for (int place = 0; place < 4; place++) {
            NineBars some = Boxes.told("bar 2;bar 4 at " + (place + 2) % 4 + ";rule 0 0 to 1 if 1 at " + place + ";");
            due(() -> some.stops(0, true), 1);
            due(() -> some.bar(1, 1), (place + 2) % 4);
        }
        NineBars not = Boxes.told("bar 2;bar 3 at 1;rule 0 0 to 1 if 1 not 1;");
        due(() -> not.stops(0, true), 1);
        // BAR 2 is free with BAR 1 at 1 and BAR 0 at 0
        NineBars free = Boxes.told("bar 2 at 1;bar 3 at 1;bar 2;nested 3;");
        due(() -> free.stops(2, true), 0);
        NineBars before = Boxes.told("bar 2;bar 3 at 2;bar 2;nested 3;");
        due(() -> before.stops(2, true), 1);
        NineBars both = Boxes.told("bar 2 at 1;bar 3 at 2;bar 2;nested 3;");
        due(() -> both.stops(2, true), -1);
        due(both::stand, 5);
        due(() -> both.count(6), 0);
    }

    private static void judge() {
        words("A VERSE in a TRAY, judged as if made (wearing, too), what 0: the first place that doesn't GO (NONE)");
        NineBars x = Boxes.told("bar 2;bar 2;");
        x.tray(0, 0, 0);
        due(() -> x.judge(0, 0), -1);
        due(() -> x.judge(0, 1), 0);
        due(() -> x.judge(0, 2), 0);
        due(() -> x.judge(0, 3), -1);
        Boxes.lay(x, 0, 0, 0);
        due(() -> x.judge(0, 0), 0);
        Boxes.lay(x, 0, 0, 1);
        due(() -> x.judge(0, 0), -1);
        long[] row = new long[40];
        for (int i = 0; i < 40; i++) {
            row[i] = (i + 1) % 2;
        }
        Boxes.lay(x, 0, 0, row);
        due(() -> x.judge(0, 0), -1);
        x.write(0, 39, 2);
        due(() -> x.judge(0, 0), 39);
        due(() -> x.judge(0, 1), 2);
        words("1: why (0; 1 for what is no STEP)");
        NineBars y = Boxes.told("bar 2;bar 2;bar 2;nested 2;rule 2 0 to 1 if 0 at 1;");
        int[][] why = {{0, 2}, {2, 2}, {3, 3}, {5, 4}, {6, 1}, {-1, 1}, {1, 0}};
        for (int[] w : why) {
            Boxes.lay(y, 1, 0, w[0]);
            due(() -> y.judge(1, 1), w[1]);
            due(() -> y.judge(1, 0), w[1] == 0 ? -1 : 0);
        }
        words("(wearing, too)");
        NineBars z = Boxes.told("bar 2;bar 2;rule 0 0 to 1 if 1 at 1;wear 2;");
        Boxes.lay(z, 0, 0, 3, 1, 2, 0, 1);
        due(() -> z.judge(0, 0), -1);
        Boxes.lay(z, 0, 0, 3, 1, 2, 0, 1);
        due(() -> z.judge(0, 0), -1);
        due(z::stand, 0);
        due(() -> z.count(6), 0);
        NineBars less = Boxes.told("bar 2;bar 2;rule 0 0 to 1 if 1 at 1;wear 3;");
        Boxes.lay(less, 0, 0, 3, 1, 2, 0, 1);
        due(() -> less.judge(0, 0), 4);
        due(() -> less.judge(0, 1), 4);
        for (int what : new int[] {Integer.MIN_VALUE, -1, 4, Integer.MAX_VALUE}) {
            refused(() -> less.judge(0, what), ARGUMENT);
        }
        words("no such TRAY (as below)");
        for (int t : new int[] {Integer.MIN_VALUE, -1, 4, Integer.MAX_VALUE}) {
            refused(() -> less.judge(t, 0), NO_SUCH);
        }
        words("it is MISSING (as below)");
        for (int t = 1; t <= 3; t++) {
            int tray = t;
            refused(() -> less.judge(tray, 0), STATE);
        }
    }

    private static void judgeOpen() {
        words("2: 1 if it is OPEN then, else 0, 3: the first place behind which it is OPEN (-2: ahead of all; NONE).");
        NineBars x = Boxes.told("bar 2;bar 2;");
        long[][] rows = {{1, 3}, {1, 3, 0}, {1, 3, 0, 1}, {1, 3, 3}, {1, 3, 1, 0}, {1, 1, 3}, {3, 1}, {1}};
        long[] open = {1, 0, 1, 1, 1, 0, 1, 0};
        long[] first = {1, 1, 1, 1, 1, -1, 1, -1};
        for (int i = 0; i < rows.length; i++) {
            int k = i;
            Boxes.lay(x, 0, 0, rows[i]);
            due(() -> x.judge(0, 2), open[k]);
            due(() -> x.judge(0, 3), first[k]);
        }
        NineBars at = Boxes.told("bar 2 at 1;");
        Boxes.lay(at, 0, 0);
        due(() -> at.judge(0, 2), 1);
        due(() -> at.judge(0, 3), -2);
        Boxes.lay(at, 0, 0, 0);
        due(() -> at.judge(0, 2), 0);
        due(() -> at.judge(0, 3), -2);
        Boxes.lay(at, 0, 0, 0, 1);
        due(() -> at.judge(0, 3), -2);
        Boxes.lay(at, 0, 0, 7);
        due(() -> at.judge(0, 2), 1);
        due(() -> at.judge(0, 3), -2);
        NineBars one = Boxes.told("bar 2;");
        Boxes.lay(one, 0, 0, 1);
        due(() -> one.judge(0, 3), 0);
        long[] row = new long[40];
        for (int i = 0; i < 39; i++) {
            row[i] = (i + 1) % 2 + 2;
        }
        NineBars late = Boxes.told("bar 2;bar 2;");
        row[39] = 1;
        Boxes.lay(late, 0, 0, row);
        due(() -> late.judge(0, 3), 39);
        due(() -> late.judge(0, 2), 1);
        NineBars none = new NineBars();
        none.tray(0, 0, 0);
        due(() -> none.judge(0, 3), -2);
        none.tray(0, 0, 1);
        due(() -> none.judge(0, 0), 0);
        due(() -> none.judge(0, 1), 1);
        due(() -> none.judge(0, 2), 1);
    }

    private static void judgeNumbers() {
        words("A VERSE: a row of STEPS by numbers: 2 times the BAR, 1 more if up.");
        NineBars x = Boxes.told("bar 3 at 1;".repeat(9));
        for (int v = 0; v < 18; v++) {
            int so = v;
            int stand = 9841;
            int weight = (int) Math.pow(3, v / 2);
            NineBars y = Boxes.told("bar 3 at 1;".repeat(9));
            Boxes.lay(y, 0, 0, so);
            due(() -> y.perform(0), 1);
            due(y::stand, so % 2 == 1 ? stand + weight : stand - weight);
        }
        long[] none = {18, 19, 100, 127, -1, -2, -128};
        for (long v : none) {
            Boxes.lay(x, 0, 0, v);
            due(() -> x.judge(0, 1), 1);
        }
        long[] far = {1L << 32, (1L << 32) + 1, -(1L << 32), (1L << 33) + 1, Long.MIN_VALUE, Long.MAX_VALUE, 1L << 31, 256};
        for (long v : far) {
            Boxes.lay(x, 0, 3, v);
            due(() -> x.judge(0, 1), 1);
            due(() -> x.judge(0, 0), 0);
            due(() -> x.perform(0), 0);
        }
        due(x::stand, 9841);
    }

    private static void perform() {
        words("It is made, till a STEP doesn't GO: how many were.");
        NineBars x = Boxes.told("bar 2;bar 2;");
        x.tray(0, 0, 0);
        due(() -> x.perform(0), 0);
        Boxes.lay(x, 0, 0, 0);
        due(() -> x.perform(0), 0);
        due(x::stand, 0);
        Boxes.lay(x, 0, 0, 1, 3, 3, 0);
        due(() -> x.perform(0), 2);
        due(x::stand, 3);
        due(() -> x.count(6), 2);
        Boxes.lay(x, 0, 0, 0, 9, 2);
        due(() -> x.perform(0), 1);
        due(x::stand, 2);
        long[] row = new long[40];
        for (int i = 0; i < 40; i++) {
            row[i] = (i + 1) % 2;
        }
        Boxes.lay(x, 3, 3, row);
        due(() -> x.perform(3), 40);
        due(() -> x.count(6), 43);
        x.write(3, 39, 1);
        due(() -> x.perform(3), 39);
        NineBars past = Boxes.told("bar 2;bar 2;");
        Boxes.lay(past, 0, 0, 1, 3, 0);
        due(() -> past.perform(0), 3);
        due(past::stand, 2);
        for (int t : new int[] {Integer.MIN_VALUE, -1, 4, Integer.MAX_VALUE}) {
            refused(() -> past.perform(t), NO_SUCH);
        }
        refused(() -> past.perform(1), STATE);
        refused(() -> past.perform(3), STATE);
    }

    private static void thief() {
        words("so many times (1 to 60)");
        for (int n : new int[] {Integer.MIN_VALUE, -1, 0, 61, 62, Integer.MAX_VALUE}) {
            refused(() -> Boxes.told("bar 2;").thief(1, n), ARGUMENT);
        }
        for (int n : new int[] {1, 2, 59, 60}) {
            due(() -> Boxes.told("bar 4;bar 4;bar 4;").thief(7, n), byDraws(7, n, new int[] {4, 4, 4}, new int[3])[3]);
        }
        words("A THIEF: STEPS he made.");
        refused(() -> new NineBars().thief(1, 1), STATE);
        refused(() -> new NineBars().thief(1, 60), STATE);
        refused(() -> new NineBars().thief(1, 61), ARGUMENT);
        refused(() -> new NineBars().thief(1, 0), ARGUMENT);
        NineBars x = Boxes.told("bar 4;bar 4;bar 4;");
        x.thief(7, 60);
        int made = byDraws(7, 60, new int[] {4, 4, 4}, new int[3])[3];
        due(() -> x.count(6), made);
    }

    /** The document's thief, on bars without rules: where they stand then, and behind them how many steps he made. */
    private static int[] byDraws(int seed, int times, int[] places, int[] at) {
        int[] end = Arrays.copyOf(at, at.length + 1);
        long x = seed & 0xFFFFFFFFL;
        for (int i = 0; i < times; i++) {
            boolean open = true;
            for (int b = 0; b < at.length; b++) {
                open = open && end[b] == places[b] - 1;
            }
            if (open) {
                break;
            }
            x = (1103515245L * x + 12345) % (1L << 32);
            int b = (int) (x / 65536 % at.length);
            x = (1103515245L * x + 12345) % (1L << 32);
            int to = end[b] + (x / 65536 % 2 == 1 ? 1 : -1);
            if (to >= 0 && to < places[b]) {
                end[b] = to;
                end[at.length]++;
            }
        }
        return end;
    }

    private static void thiefDraws() {
        words("A THIEF by a SEED (x, an int; a DRAW: x becomes 1103515245 x + 12345, it is x >>> 16)");
        words("BAR is DRAW modulo BARS, up if DRAW modulo 2 is 1: made, if it GOES (it wears, too)");
        int[] seeds = {0, 1, -1, 2, 5, 12345, 1 << 16, 65535, 1 << 31, Integer.MAX_VALUE, -77, 987654321};
        for (int bars = 1; bars <= 9; bars++) {
            int[] places = new int[bars];
            StringBuilder text = new StringBuilder();
            for (int b = 0; b < bars; b++) {
                places[b] = 2 + (b + bars) % 3;
                text.append("bar ").append(places[b]).append(';');
            }
            for (int seed : seeds) {
                for (int times : new int[] {1, 3, 17, 60}) {
                    int[] end = byDraws(seed, times, places, new int[bars]);
                    NineBars x = Boxes.told(text.toString());
                    due(() -> x.thief(seed, times), end[end.length - 1]);
                    for (int b = 0; b < bars; b++) {
                        int i = b;
                        due(() -> x.bar(i, 1), end[i]);
                    }
                }
            }
        }
        // he goes up, wears the bar by it, and then comes down against its rule
        NineBars wears = Boxes.told("bar 2;bar 2;bar 2;rule 0 1 to 0 if 1 at 1;rule 1 0 to 1 if 0 at 0 and 0 at 1;rule 2 0 to 1 if 0 at 0 and 0 at 1;wear 1;");
        NineBars whole = Boxes.told("bar 2;bar 2;bar 2;rule 0 1 to 0 if 1 at 1;rule 1 0 to 1 if 0 at 0 and 0 at 1;rule 2 0 to 1 if 0 at 0 and 0 at 1;");
        due(() -> whole.thief(3, 60), 1);
        due(() -> is(wears.thief(3, 60) > 1), 1);
        due(() -> wears.bar(0, 4), 1);
    }

    private static void thiefStops() {
        words("he stops when it is OPEN.");
        NineBars x = Boxes.told("bar 2;");
        due(() -> x.thief(5, 60), 1);
        due(() -> is(x.isOpen()), 1);
        due(() -> x.thief(5, 60), 0);
        due(() -> x.thief(1, 1), 0);
        due(() -> is(x.isOpen()), 1);
        due(() -> x.count(6), 1);
        NineBars y = Boxes.told("bar 2 at 1;bar 3 at 2;");
        due(() -> y.thief(9, 60), 0);
        due(y::stand, 5);
    }
}
