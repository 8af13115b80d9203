import java.util.Arrays;

/** The bounds that the document names of TRAYS, IMAGES and what is counted (promises 39 to 44). */
public final class TrayBoundsTest extends Check {
    private static final String FREE = "bar 2;bar 2;";
    private static final String LOCK = "bar 3;bar 2;rule 0 0 to 1 if 1 at 1;rule 0 1 to 2 if 1 at 0;";
    private static final String NEVER = "bar 2;bar 2;rule 0 0 to 1 if 1 at 0 and 1 at 1;";
    private static final int[] NO_TRAYS = {Integer.MIN_VALUE, -2, -1, 4, 5, Integer.MAX_VALUE};
    private static final int[] NO_IMAGES = {Integer.MIN_VALUE, -2, -1, 3, 4, Integer.MAX_VALUE};

    public static void main(String[] args) {
        missing();
        tray();
        noughts();
        write();
        cut();
        pour();
        pourLess();
        image();
        imageHolds();
        imageLeaves();
        restore();
        count();
        countSteps();
        end("TrayBoundsTest");
    }

    private static void missing() {
        words("TRAYS 0 to 3 are MISSING at first");
        NineBars x = Boxes.told(FREE);
        for (int t = 0; t <= 3; t++) {
            int tray = t;
            refused(() -> x.judge(tray, 0), STATE);
            refused(() -> x.perform(tray), STATE);
            refused(() -> x.known(tray), STATE);
            refused(() -> x.fits(0, tray, -1), STATE);
            refused(() -> x.tries(0, tray, 0), STATE);
            refused(() -> x.write(tray, 0, 0), STATE);
            refused(() -> x.pour(tray), STATE);
        }
        made(() -> x.tray(2, 0, 1));
        due(() -> x.perform(2), 0);
        due(() -> x.write(2, 0, 1), 1);
        for (int t : new int[] {0, 1, 3}) {
            refused(() -> x.perform(t), STATE);
        }
        words("No BARS; TRAYS are MISSING; an empty tape.");
        NineBars y = new NineBars();
        due(() -> y.count(1), 0);
        due(() -> y.count(7), 0);
        for (int t = 0; t <= 3; t++) {
            int tray = t;
            refused(() -> y.perform(tray), STATE);
        }
    }

    private static void tray() {
        words("or rows of 0 to 40 numbers of 8 bits (sort 0), 16 (1), 32 (2), 64 (3).");
        words("A TRAY is a row of so many 0s. NoSuchElementException: no such TRAY; IllegalArgumentException: no such sort, or not so many.");
        NineBars x = Boxes.told(FREE);
        for (int t : NO_TRAYS) {
            refused(done(() -> x.tray(t, 0, 0)), NO_SUCH);
            refused(done(() -> x.tray(t, -1, 0)), NO_SUCH);
            refused(done(() -> x.tray(t, 0, 41)), NO_SUCH);
        }
        for (int t = 0; t <= 3; t++) {
            int tray = t;
            for (int sort : new int[] {Integer.MIN_VALUE, -2, -1, 4, 5, Integer.MAX_VALUE}) {
                refused(done(() -> x.tray(tray, sort, 1)), ARGUMENT);
            }
            for (int sort = 0; sort <= 3; sort++) {
                int so = sort;
                for (int many : new int[] {Integer.MIN_VALUE, -2, -1, 41, 42, Integer.MAX_VALUE}) {
                    refused(done(() -> x.tray(tray, so, many)), ARGUMENT);
                }
            }
            refused(() -> x.perform(tray), STATE);
            for (int sort = 0; sort <= 3; sort++) {
                int so = sort;
                for (int many : new int[] {0, 1, 39, 40}) {
                    made(() -> x.tray(tray, so, many));
                    refused(() -> x.write(tray, many, 0), INDEX);
                    dueIf(() -> x.write(tray, many - 1, 7), many > 0, 7, INDEX);
                }
            }
        }
        // a refused one leaves the row that was there
        Boxes.lay(x, 0, 0, 1, 3);
        refused(done(() -> x.tray(0, 4, 1)), ARGUMENT);
        refused(done(() -> x.tray(0, 0, 41)), ARGUMENT);
        due(() -> x.judge(0, 2), 1);
        refused(() -> x.write(0, 2, 0), INDEX);
    }

    private static void noughts() {
        words("A TRAY is a row of so many 0s.");
        NineBars x = Boxes.told("bar 4 at 3 open 0;".repeat(3));
        x.tray(0, 0, 3);
        due(() -> x.judge(0, 0), -1);
        due(() -> x.perform(0), 3);
        due(() -> x.bar(0, 1), 0);
        long[] row = new long[40];
        Arrays.fill(row, 5);
        Boxes.lay(x, 0, 3, row);
        x.tray(0, 3, 40);
        NineBars y = Boxes.told("bar 2 at 1;".repeat(2));
        Boxes.lay(y, 1, 1, 3, 3, 3);
        y.tray(1, 1, 3);
        due(() -> y.judge(1, 0), 1);
        due(() -> y.judge(1, 1), 2);
        for (int i = 0; i < 40; i++) {
            int place = i;
            NineBars z = Boxes.told("bar 2 at 1;");
            Boxes.lay(z, 0, 0, row);
            z.tray(0, 0, 40);
            // all behind and ahead of the place go up and down by turns: the 0 of the place itself goes down
            for (int k = 0; k < 40; k++) {
                if (k != place) {
                    z.write(0, k, k % 2);
                }
            }
            due(() -> z.judge(0, 0), place % 2 == 0 ? -1 : place);
        }
        made(() -> y.tray(1, 0, 0));
        due(() -> y.perform(1), 0);
    }

    private static void write() {
        words("A number comes to a place of a TRAY, cut to its sort: as it is there. IllegalStateException: it is MISSING; IndexOutOfBoundsException: it has no such place.");
        NineBars x = Boxes.told(FREE);
        for (int t : NO_TRAYS) {
            refused(() -> x.write(t, 0, 0), NO_SUCH);
            refused(() -> x.write(t, -1, 0), NO_SUCH);
        }
        for (int many : new int[] {0, 1, 2, 39, 40}) {
            x.tray(1, 2, many);
            for (int place : new int[] {Integer.MIN_VALUE, -2, -1, 0, 1, 38, 39, 40, 41, Integer.MAX_VALUE}) {
                dueIf(() -> x.write(1, place, -9), place >= 0 && place < many, -9, INDEX);
            }
        }
        refused(() -> x.write(0, 0, 0), STATE);
        refused(() -> x.write(0, -1, 0), STATE);
        refused(() -> x.write(3, 40, 0), STATE);
        // what was written is there
        x.tray(0, 0, 2);
        x.write(0, 0, 3);
        due(() -> x.judge(0, 0), 1);
        x.write(0, 1, 1);
        due(() -> x.perform(0), 2);
        due(x::stand, 3);
    }

    private static void cut() {
        words("cut to its sort: as it is there");
        long[][] bits8 = {{0, 0}, {127, 127}, {128, -128}, {129, -127}, {255, -1}, {256, 0}, {257, 1}, {-1, -1}, {-128, -128}, {-129, 127}};
        long[][] bits16 = {{0, 0}, {32767, 32767}, {32768, -32768}, {65535, -1}, {65536, 0}, {65537, 1}, {-1, -1}, {-32768, -32768},
            {-32769, 32767}, {128, 128}, {256, 256}};
        long two32 = 1L << 32;
        long[][] bits32 = {{0, 0}, {two32 / 2 - 1, two32 / 2 - 1}, {two32 / 2, -two32 / 2}, {two32 - 1, -1}, {two32, 0}, {two32 + 1, 1},
            {-two32 / 2, -two32 / 2}, {-two32 / 2 - 1, two32 / 2 - 1}, {-1, -1}, {65536, 65536}, {32768, 32768}};
        long[][] bits64 = {{0, 0}, {Long.MAX_VALUE, Long.MAX_VALUE}, {Long.MIN_VALUE, Long.MIN_VALUE}, {-1, -1}, {two32, two32},
            {two32 / 2, two32 / 2}, {Long.MIN_VALUE + 1, Long.MIN_VALUE + 1}};
        long[][][] all = {bits8, bits16, bits32, bits64};
        NineBars x = new NineBars();
        for (int sort = 0; sort <= 3; sort++) {
            for (long[] pair : all[sort]) {
                x.tray(0, sort, 1);
                due(() -> x.write(0, 0, pair[0]), pair[1]);
            }
            x.tray(0, sort, 1);
            due(() -> x.write(0, 0, Long.MAX_VALUE), all[sort] == bits64 ? Long.MAX_VALUE : -1);
            due(() -> x.write(0, 0, Long.MIN_VALUE), all[sort] == bits64 ? Long.MIN_VALUE : 0);
        }
        // it is there as it was cut: 259 of 8 bits is the step 3, -1 is NONE
        NineBars y = Boxes.told(FREE);
        Boxes.lay(y, 0, 0, 259, 257);
        due(() -> y.judge(0, 2), 1);
        Boxes.lay(y, 0, 0, 255, 65535);
        due(() -> y.known(0), 2);
        Boxes.lay(y, 0, 1, 255, 65535);
        due(() -> y.known(0), 0);
    }

    private static void pour() {
        words("The SHORTEST VERSE from now to OPEN comes into a TRAY from its first place on, as many as it has places: how many (0: none).");
        for (int many : new int[] {0, 1, 4, 5, 6, 40}) {
            NineBars x = Boxes.told(LOCK);
            long[] row = new long[many];
            Arrays.fill(row, 99);
            Boxes.lay(x, 3, many % 4, row);
            int so = Math.min(5, many);
            due(() -> x.pour(3), so);
            due(x::stand, 0);
            due(() -> x.judge(3, 0), many > 5 ? 5 : -1);
            due(() -> x.judge(3, 2), many >= 5 ? 1 : 0);
            due(() -> x.perform(3), so);
        }
        NineBars way = Boxes.told(Boxes.oneWay(0, 63));
        way.tray(0, 0, 40);
        due(() -> way.pour(0), 40);
        due(() -> way.perform(0), 40);
        due(way::stand, Boxes.standOnWay(40));
        due(() -> way.pour(0), 23);
        due(() -> way.perform(0), 23);
        due(() -> is(way.isOpen()), 1);
        due(() -> way.pour(0), 0);
        NineBars nine = Boxes.told("bar 2;".repeat(9));
        nine.tray(0, 0, 9);
        due(() -> nine.pour(0), 9);
        due(() -> nine.judge(0, 3), 8);
    }

    private static void pourLess() {
        words("how many (0: none). NoSuchElementException: no such TRAY; IllegalStateException: it is MISSING, SPENT.");
        NineBars x = Boxes.told(LOCK);
        Boxes.lay(x, 0, 0, 9, 9, 9, 9, 9, 3, 2);
        due(() -> x.pour(0), 5);
        // the places behind it stay as they were
        due(() -> x.judge(0, 0), 5);
        x.write(0, 5, 2);
        due(() -> x.judge(0, 0), 6);
        NineBars none = Boxes.told(NEVER);
        Boxes.lay(none, 0, 0, 3, 2);
        due(() -> none.pour(0), 0);
        due(() -> none.perform(0), 2);
        NineBars open = Boxes.told("bar 2 at 1;");
        Boxes.lay(open, 0, 0, 0);
        due(() -> open.pour(0), 0);
        due(() -> open.perform(0), 1);
        NineBars bare = new NineBars();
        bare.tray(0, 0, 1);
        due(() -> bare.pour(0), 0);
        for (int t : NO_TRAYS) {
            refused(() -> x.pour(t), NO_SUCH);
        }
        refused(() -> x.pour(1), STATE);
        refused(() -> bare.pour(3), STATE);
        NineBars spent = Boxes.told("bar 4;bar 4;bar 4;bar 4;bar 3;bar 3;bar 3;bar 3;");
        spent.tray(0, 0, 0);
        refused(() -> spent.pour(0), STATE);
        refused(() -> spent.pour(1), STATE);
        refused(() -> spent.pour(4), NO_SUCH);
    }

    private static void image() {
        words("An IMAGE is made. NoSuchElementException: no such one.");
        NineBars x = Boxes.told("bar 4;");
        for (int i : NO_IMAGES) {
            refused(done(() -> x.image(i)), NO_SUCH);
        }
        for (int i = 0; i <= 2; i++) {
            int so = i;
            made(() -> x.image(so));
            due(() -> x.step(0, true), so + 1);
        }
        for (int i = 2; i >= 0; i--) {
            int so = i;
            made(() -> x.restore(so));
            due(x::stand, so);
            due(() -> x.count(6), so);
        }
        // a later one takes its place
        made(() -> x.restore(2));
        made(() -> x.image(0));
        made(() -> x.restore(1));
        made(() -> x.restore(0));
        due(x::stand, 2);
    }

    private static void imageHolds() {
        words("IMAGES 0 to 2: all but the tape, the FAULT and TRAYS, as it was (none at first).");
        NineBars x = Boxes.told("bar 3 at 1 open 0;bar 2;bar 4;rule 0 1 to 2 if 1 at 1 and 2 not 3;rule 1 0 to 1 if 2 at 0;nested 2;wear 2;\n");
        due(() -> x.step(0, false), 0);
        due(() -> x.step(0, true), 1);
        due(() -> x.step(1, true), 1);
        made(() -> x.image(1));
        Boxes.tell(x, "bar 2;bar 2;bar 2;bar 2;rule 3 0 to 1 if 0 at 0 and 0 at 0 and 0 at 1 and 0 at 0;nested 4;wear 9;");
        x.step(0, true);
        made(() -> x.restore(1));
        long[] counts = {7, 3, 2, 2, 2, 24, 3, 0};
        for (int i = 0; i < counts.length; i++) {
            int what = i;
            due(() -> x.count(what), counts[what]);
        }
        long[][] bars = {{3, 1, 0, 2, 1, 1}, {2, 1, 1, 1, 0, 1}, {4, 0, 3, 0, 0, 0}};
        for (int b = 0; b < 3; b++) {
            for (int what = 0; what <= 5; what++) {
                int i = b;
                int k = what;
                due(() -> x.bar(i, k), bars[i][k]);
            }
        }
        long[][] rules = {{0, 1, 2, 2, 1}, {1, 0, 1, 1, 1}};
        for (int r = 0; r < 2; r++) {
            for (int what = 0; what <= 4; what++) {
                int i = r;
                int k = what;
                due(() -> x.rule(i, k), rules[i][k]);
            }
        }
        refused(() -> x.bar(3, 0), NO_SUCH);
        refused(() -> x.rule(2, 0), NO_SUCH);
        due(x::stand, 4);
        due(() -> is(x.fromStart(1)), 1);
        // it goes on from there
        due(() -> x.step(2, true), 1);
        due(() -> x.step(1, false), 0);
        due(() -> x.bar(1, 4), 1);
        due(() -> x.step(1, true), 1);
        made(() -> x.restore(1));
        due(x::stand, 4);
        due(() -> x.bar(1, 3), 1);
    }

    private static void imageLeaves() {
        words("all but the tape, the FAULT and TRAYS");
        NineBars x = Boxes.told(FREE);
        Boxes.lay(x, 0, 0, 1);
        Boxes.tell(x, "bar 2;#");
        Boxes.feed(x, "bar 2;");
        made(() -> x.image(0));
        Boxes.feed(x, "bar 3;");
        Boxes.lay(x, 0, 0, 3, 1);
        Boxes.lay(x, 2, 0, 3);
        made(() -> x.restore(0));
        due(() -> x.count(7), 40);
        due(() -> x.fault(0), 1);
        due(() -> x.fault(1), 6);
        due(() -> x.perform(0), 2);
        due(() -> x.judge(2, 1), 2);
        due(() -> x.box(26), 2);
        due(() -> x.fault(0), 0);
        made(() -> x.restore(0));
        due(() -> x.count(7), 0);
        due(() -> x.fault(0), 0);
        due(() -> x.fault(1), -1);
        due(() -> x.count(1), 2);
        // IMAGES stay IMAGES: what was made behind one is there still
        x.step(1, true);
        made(() -> x.image(1));
        made(() -> x.restore(0));
        due(x::stand, 0);
        made(() -> x.restore(1));
        due(x::stand, 2);
    }

    private static void restore() {
        words("All is as in an IMAGE. NoSuchElementException: no such one; IllegalStateException: none was made.");
        NineBars x = Boxes.told("bar 4;");
        for (int i = 0; i <= 2; i++) {
            int so = i;
            refused(done(() -> x.restore(so)), STATE);
            refused(done(() -> new NineBars().restore(so)), STATE);
        }
        for (int i : NO_IMAGES) {
            refused(done(() -> x.restore(i)), NO_SUCH);
            refused(done(() -> new NineBars().restore(i)), NO_SUCH);
        }
        made(() -> x.image(1));
        refused(done(() -> x.restore(0)), STATE);
        refused(done(() -> x.restore(2)), STATE);
        made(() -> x.restore(1));
        NineBars bare = new NineBars();
        made(() -> bare.image(2));
        Boxes.tell(bare, FREE);
        made(() -> bare.restore(2));
        due(() -> bare.count(1), 0);
        due(() -> is(bare.isOpen()), 1);
        due(bare::reached, 1);
    }

    private static void count() {
        words("0 LINES, 1 BARS, 2 RULES, 3 nested ones (0 without), 4 wear, 5 STANDS (as a number), 6 STEPS made, 7 bytes on the tape; NONE for others.");
        NineBars x = Boxes.told("bar 2;bar 3;rule 1 0 to 1 if 0 at 1;nested 2;wear 9;wear 8;");
        x.step(0, true);
        Boxes.feed(x, "bar 2;");
        long[] want = {6, 2, 1, 2, 8, 6, 1, 20};
        for (int what = -3; what <= 11; what++) {
            int i = what;
            due(() -> x.count(i), i >= 0 && i <= 7 ? want[i] : -1);
        }
        due(() -> x.count(Integer.MIN_VALUE), -1);
        due(() -> x.count(Integer.MAX_VALUE), -1);
        long[] bare = {0, 0, 0, 0, 0, 1, 0, 0};
        NineBars y = new NineBars();
        for (int what = -1; what <= 8; what++) {
            int i = what;
            due(() -> y.count(i), i >= 0 && i <= 7 ? bare[i] : -1);
        }
        due(() -> Boxes.told("wear1;".repeat(150)).count(0), 150);
        due(() -> Boxes.told("bar 2;".repeat(9)).count(5), 512);
        due(() -> Boxes.told("bar 4;".repeat(9)).count(5), 262144);
        due(() -> Boxes.told("bar 4;".repeat(9)).count(1), 9);
        due(() -> Boxes.told("bar 2;".repeat(9) + "nested 9;").count(3), 9);
        due(() -> Boxes.told(FREE + "rule 0 0 to 1 if 1 at 1;".repeat(24)).count(2), 24);
        for (int i = 1; i <= 44; i++) {
            y.feed(0, 0, 0, 0, 0);
        }
        due(() -> y.count(7), 880);
        y.feed(0, 0, 0, 0, 0);
        due(() -> y.count(7), 900);
        y.feed(0, 0, 0, 0, 0);
        due(() -> y.count(7), 900);
    }

    private static void countSteps() {
        words("6 STEPS made");
        NineBars x = Boxes.told("bar 2;bar 3;");
        x.step(0, false);
        x.step(2, true);
        due(() -> x.count(6), 0);
        x.step(0, true);
        x.step(1, true);
        x.step(0, false);
        due(() -> x.count(6), 3);
        Boxes.lay(x, 0, 0, 1, 3, 3);
        x.judge(0, 0);
        due(() -> x.count(6), 3);
        x.perform(0);
        due(() -> x.count(6), 5);
        Boxes.tell(x, "bar 5;");
        due(() -> x.count(6), 5);
        Boxes.tell(x, "bar 2;");
        due(() -> x.count(6), 0);
        x.thief(5, 60);
        due(() -> x.count(6), 1);
    }
}
