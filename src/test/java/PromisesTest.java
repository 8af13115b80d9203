/** At least one test for each promise: ordinary inputs, edges, wrong inputs. */
public final class PromisesTest extends Check {
    /** 0 -> 1 only with bar 1 at 1, 1 -> 2 only with bar 1 at 0: opens by up1 up0 down1 up0 up1. */
    private static final String LOCK = "bar 3;bar 2;rule 0 0 to 1 if 1 at 1;rule 0 1 to 2 if 1 at 0;";
    private static final String RINGS = "bar 2;bar 2;bar 2;nested 3;";
    private static final String BIG = "bar 4;bar 4;bar 4;bar 4;bar 4;bar 4;bar 4;bar 4;";
    private static final String FREE = "bar 2;bar 2;";

    private static long tray(NineBars x, int tray, int sort, int many) {
        x.tray(tray, sort, many);
        return 0;
    }

    private static long image(NineBars x, int i) {
        x.image(i);
        return 0;
    }

    private static long restore(NineBars x, int i) {
        x.restore(i);
        return 0;
    }

    public static void main(String[] args) {
        theBox();
        faults();
        bars();
        stands();
        reasons();
        steps();
        verses();
        thieves();
        reach();
        shortest();
        farthest();
        dead();
        musts();
        halves();
        worn();
        hardest();
        known();
        keeps();
        fits();
        rows();
        keys();
        trays();
        images();
        counts();
        room();
        end("PromisesTest");
    }

    private static void theBox() {
        about("promise 1");
        NineBars x = new NineBars();
        due("no bars", () -> x.count(1), 0);
        due("empty tape", () -> x.count(7), 0);
        due("one stand", () -> x.count(5), 1);
        for (int t = 0; t < 4; t++) {
            int tray = t;
            refused("missing", () -> x.perform(tray), STATE);
        }
        due("NONE", () -> NineBars.NONE, -1);
        due("SPENT", () -> NineBars.SPENT, -1000);
        about("promise 2");
        for (int i = 1; i <= 45; i++) {
            int many = 20 * i;
            due("feed", () -> x.feed(0, 0, 0, 0, 0), many);
        }
        due("full", () -> x.feed(0, 0, 0, 0, 0), -1);
        due("full stays", () -> x.count(7), 900);
        NineBars z = new NineBars();
        z.feed(('b' << 24) + ('a' << 16) + ('r' << 8) + ' ', ('3' << 24) + (';' << 16) + (' ' << 8) + ' ', -1, -1, -1);
        due("highest byte first", () -> z.box(8), 1);
        due("places", () -> z.bar(0, 0), 3);
        about("promise 3");
        refused("more than it has", () -> x.box(901), ARGUMENT);
        refused("below 0", () -> x.box(-1), ARGUMENT);
        due("a throw changes nothing", () -> x.count(7), 900);
        NineBars y = new NineBars();
        due("lines", () -> Boxes.tell(y, "bar 2;\nbar 3 at 1 open 0;rule 1 0 to 1 if 0 not 1;wear 7 ; nested 2;"), 5);
        due("empty then", () -> y.count(7), 0);
        due("its bars", () -> y.count(1), 2);
        due("a fault", () -> Boxes.tell(y, "bar 2;bar 2;bar 2"), -12);
        due("all stays", () -> y.bar(1, 1), 1);
        due("tape is empty behind a fault", () -> y.count(7), 0);
        due("empty text", () -> y.box(0), 0);
        due("no bars again", () -> y.count(1), 0);
        due("later ones strike", () -> Boxes.tell(y, "bar 2;bar 2;bar 2;nested 2;nested 3;wear 5;wear 0;"), 7);
        due("nested", () -> y.count(3), 3);
        due("wear", () -> y.count(4), 0);
        due("two figures", () -> Boxes.tell(y, "wear 97;"), 1);
        due("97", () -> y.count(4), 97);
        due("no blanks between", () -> Boxes.tell(y, "bar2at1;"), 1);
        Boxes.feed(y, "bar 2;bar 2;");
        due("the first n bytes", () -> y.box(6), 1);
    }

    private static void fault(String text, int kind, int place) {
        NineBars x = Boxes.told(FREE);
        due("box of " + text, () -> Boxes.tell(x, text), -10 - kind);
        due("fault of " + text, () -> x.fault(0), kind);
        due("place in " + text, () -> x.fault(1), place);
        due("bars stay behind " + text, () -> x.count(1), 2);
    }

    private static void faults() {
        about("promise 4");
        NineBars x = new NineBars();
        due("at first", () -> x.fault(0), 0);
        due("no place at first", () -> x.fault(1), -1);
        due("others", () -> x.fault(2), -1);
        due("others", () -> x.fault(-1), -1);
        fault("bar 2;#", 1, 6);
        fault("bar 0002;", 1, 4);
        fault("bar\t2;", 1, 3);
        fault("Bar 2;", 1, 0);
        fault("bar 2;\u00e9", 1, 6);
        fault("bars 2;", 2, 0);
        fault(";", 2, 0);
        fault("bar 2", 2, 5);
        fault("bar 2  ", 2, 7);
        fault("bar;", 2, 3);
        fault("bar at 2;", 2, 4);
        fault("bar 2 open 1 at 0;", 2, 13);
        fault("bar 2;rule 0 0 too 1 if 1 at 0;", 2, 15);
        fault("bar 1;", 3, 4);
        fault("bar 5;", 3, 4);
        fault("bar 3 at 3;", 3, 9);
        fault("bar 3 open 3;", 3, 11);
        fault("bar 3;bar 2;rule 2 0 to 1 if 1 at 0;", 3, 17);
        fault("bar 3;bar 2;rule 0 3 to 2 if 1 at 0;", 3, 19);
        fault("bar 3;bar 2;rule 0 0 to 2 if 1 at 0;", 3, 24);
        fault("bar 3;bar 2;rule 0 0 to 0 if 1 at 0;", 3, 24);
        fault("bar 3;bar 2;rule 0 2 to 3 if 1 at 0;", 3, 24);
        fault("bar 3;bar 2;rule 0 0 to 1 if 0 at 0;", 3, 29);
        fault("bar 3;bar 2;rule 0 0 to 1 if 1 at 2;", 3, 34);
        fault("bar 3;bar 2;nested 1;", 3, 19);
        fault("bar 3;bar 2;nested 3;", 3, 19);
        fault("wear 100;", 3, 5);
        fault("bar 2;".repeat(10), 4, 54);
        fault(FREE + "rule 0 0 to 1 if 1 at 0;".repeat(25), 4, 12 + 24 * 24);
        fault(FREE + "rule 0 0 to 1 if 1 at 0 and 1 at 0 and 1 at 0 and 1 at 0 and", 4, 12 + 23 + 3 * 11 + 1);
        // the first along the text, whatever its kind
        fault("bar 5 #", 3, 4);
        fault("bar # 5", 1, 4);
        Boxes.tell(x, "bar 5;");
        Boxes.tell(x, "bar 4;");
        due("without", () -> x.fault(0), 0);
        due("no place without", () -> x.fault(1), -1);
        Boxes.tell(x, "bar 5;");
        refused("a throw", () -> x.box(1), ARGUMENT);
        due("the latest that threw nothing", () -> x.fault(0), 3);
        NineBars nine = new NineBars();
        due("nine bars", () -> Boxes.tell(nine, "bar 2;".repeat(9)), 9);
        due("24 rules", () -> Boxes.tell(nine, FREE + "rule 0 0 to 1 if 1 at 0;".repeat(24)), 26);
        due("4 facts", () -> Boxes.tell(nine, FREE + "rule 0 0 to 1 if 1 at 0 and 1 not 1 and 1 at 0 and 1 at 0;"), 3);
    }

    private static void bars() {
        about("promise 5");
        NineBars x = Boxes.told("bar 4 at 1 open 2;bar 2;rule 0 1 to 2 if 1 at 1;rule 0 0 to 1 if 1 at 0;wear 1;");
        long[] want = {4, 1, 2, 0, 0, 2};
        for (int i = 0; i < want.length; i++) {
            int what = i;
            due("bar 0, " + i, () -> x.bar(0, what), want[what]);
        }
        due("open without", () -> x.bar(1, 2), 1);
        x.step(1, true);
        due("steps", () -> x.bar(1, 3), 1);
        due("worn", () -> x.bar(1, 4), 1);
        refused("no bar", () -> x.bar(2, 9), NO_SUCH);
        refused("no bar", () -> x.bar(-1, 0), NO_SUCH);
        refused("what", () -> x.bar(1, 6), ARGUMENT);
        refused("what", () -> x.bar(1, -1), ARGUMENT);
        NineBars never = Boxes.told("bar 2;wear 0;");
        never.step(0, true);
        due("never worn", () -> never.bar(0, 4), 0);
        about("promise 6");
        NineBars y = Boxes.told("bar 4;bar 2;bar 2;rule 0 2 to 1 if 1 at 1 and 2 not 1;rule 1 0 to 1 if 0 at 0;");
        long[] rule = {0, 2, 1, 2, 0};
        for (int i = 0; i < rule.length; i++) {
            int what = i;
            due("rule 0, " + i, () -> y.rule(0, what), rule[what]);
        }
        due("holds", () -> y.rule(1, 4), 1);
        y.step(1, true);
        due("holds wherever its bar is", () -> y.rule(0, 4), 1);
        y.step(2, true);
        due("holds no more", () -> y.rule(0, 4), 0);
        refused("no rule", () -> y.rule(2, 9), NO_SUCH);
        refused("no rule", () -> y.rule(-1, 0), NO_SUCH);
        refused("what", () -> y.rule(0, 5), ARGUMENT);
        refused("what", () -> y.rule(0, -1), ARGUMENT);
    }

    private static void stands() {
        about("promise 7");
        NineBars x = Boxes.told("bar 3 at 2;bar 4 at 1;bar 2 at 1;");
        due("stand", x::stand, 2 + 3 * 1 + 12 * 1);
        NineBars big = Boxes.told(BIG);
        due("spent", big::stand, -1000);
        NineBars edge = Boxes.told("bar 4;bar 4;bar 4;bar 4;bar 4;bar 4;bar 4 at 3;");
        due("16,384 aren't too many", edge::stand, 3 * 4096);
        due("20,736 are", () -> Boxes.told("bar 4;bar 4;bar 4;bar 4;bar 3;bar 3;bar 3;bar 3;").stand(), -1000);
        about("promise 8");
        due("place", () -> x.placeIn(23, 1), 3);
        due("place", () -> x.placeIn(11, 2), 0);
        refused("bar", () -> x.placeIn(0, 3), NO_SUCH);
        refused("stand", () -> x.placeIn(24, 0), NO_SUCH);
        refused("stand", () -> x.placeIn(-1, 0), NO_SUCH);
        refused("spent", () -> big.placeIn(0, 0), STATE);
        refused("bar ahead of spent", () -> big.placeIn(0, 8), NO_SUCH);
        about("promise 9");
        due("without bars", () -> is(new NineBars().isOpen()), 1);
        due("not open", () -> is(x.isOpen()), 0);
        NineBars y = Boxes.told("bar 3 at 1 open 1;bar 2 open 0;");
        due("open", () -> is(y.isOpen()), 1);
        due("spent, not open", () -> is(big.isOpen()), 0);
    }

    private static void reasons() {
        about("promise 10");
        NineBars x = Boxes.told(RINGS);
        due("goes", () -> x.may(0, true), 0);
        due("no bar", () -> x.may(3, true), 1);
        due("no bar", () -> x.may(-1, true), 1);
        due("no place ahead of nested", () -> x.may(1, false), 2);
        due("nested", () -> x.may(1, true), 3);
        NineBars y = Boxes.told("bar 3 at 2;bar 3 at 1;bar 3;nested 2;");
        due("bar 0 is at 2, not at 1", () -> y.may(1, false), 3);
        due("not between 0 and 1", () -> y.may(1, true), 0);
        due("not of the first ones", () -> y.may(2, true), 0);
        NineBars z = Boxes.told("bar 2 at 1;bar 2 at 1;bar 2;nested 3;rule 2 0 to 1 if 0 at 1;");
        due("nested ahead of rules", () -> z.may(2, true), 3);
        z.step(0, false);
        due("rules", () -> z.may(2, true), 4);
        NineBars lock = Boxes.told("bar 2;bar 3;rule 0 0 to 1 if 1 at 1;rule 0 0 to 1 if 1 not 0 and 1 not 1;wear 1;");
        due("none holds", () -> lock.may(0, true), 4);
        lock.step(1, true);
        due("one holds", () -> lock.may(0, true), 0);
        lock.step(1, true);
        due("the other one holds", () -> lock.may(0, true), 0);
        lock.step(0, true);
        due("no rules of this step", () -> lock.may(0, false), 0);
        lock.step(0, false);
        lock.step(1, false);
        lock.step(1, false);
        due("worn", () -> lock.may(0, true), 0);
        about("promise 12");
        NineBars w = Boxes.told(RINGS);
        due("the bar below", () -> w.stops(2, true), 1);
        due("goes", () -> w.stops(0, true), -1);
        due("nothing does", () -> w.stops(0, false), -1);
        due("no bar", () -> w.stops(9, false), -1);
        NineBars v = Boxes.told("bar 2;bar 2;bar 2;rule 0 0 to 1 if 1 at 1 and 2 at 1;");
        due("two at once are needed", () -> v.stops(0, true), -1);
        v.step(1, true);
        due("the least other", () -> v.stops(0, true), 2);
        due("all stays", v::stand, 2);
    }

    private static void steps() {
        about("promise 11");
        NineBars x = Boxes.told(LOCK + "wear 3;");
        due("up", () -> x.step(1, true), 1);
        due("up", () -> x.step(0, true), 1);
        due("rules", () -> x.step(0, true), -4);
        due("nothing happens", x::stand, 4);
        due("not counted", () -> x.bar(0, 3), 1);
        due("down", () -> x.step(1, false), 0);
        due("no place", () -> x.step(1, false), -2);
        due("no bar", () -> x.step(2, false), -1);
        due("no bar", () -> x.step(Integer.MIN_VALUE, false), -1);
        NineBars y = Boxes.told(RINGS);
        due("nested", () -> y.step(1, true), -3);
        NineBars big = Boxes.told(BIG);
        due("goes though spent", () -> big.step(7, true), 1);
    }

    private static void verses() {
        about("promise 13");
        NineBars x = Boxes.told(RINGS);
        Boxes.lay(x, 2, 1, 1, 3, 0, 5, 1, 1);
        due("where", () -> x.judge(2, 0), 5);
        due("why", () -> x.judge(2, 1), 2);
        due("open then", () -> x.judge(2, 2), 1);
        due("behind which", () -> x.judge(2, 3), 4);
        due("as if", x::stand, 0);
        Boxes.lay(x, 2, 3, 1, 6);
        due("no step", () -> x.judge(2, 0), 1);
        due("no step", () -> x.judge(2, 1), 1);
        due("not open", () -> x.judge(2, 2), 0);
        due("never", () -> x.judge(2, 3), -1);
        Boxes.lay(x, 2, 3, 1L << 32, 1);
        due("no step, not cut", () -> x.judge(2, 0), 0);
        Boxes.lay(x, 2, 3, (1L << 33) + 1);
        due("no step, not cut", () -> x.judge(2, 1), 1);
        Boxes.lay(x, 2, 3, -1);
        due("no step", () -> x.judge(2, 1), 1);
        Boxes.lay(x, 2, 3);
        due("all go", () -> x.judge(2, 0), -1);
        due("all go", () -> x.judge(2, 1), 0);
        refused("what", () -> x.judge(2, 4), ARGUMENT);
        refused("what", () -> x.judge(2, -1), ARGUMENT);
        refused("missing ahead of what", () -> x.judge(1, 4), STATE);
        refused("no tray", () -> x.judge(4, 4), NO_SUCH);
        NineBars y = Boxes.told("bar 2;bar 2;rule 0 0 to 1 if 1 at 1;wear 2;");
        Boxes.lay(y, 0, 0, 3, 1, 2, 0, 0, 1);
        due("wears", () -> y.judge(0, 0), 4);
        Boxes.lay(y, 0, 0, 3, 1, 0, 2, 1);
        due("goes, as it is worn then", () -> y.judge(0, 0), -1);
        due("once open is enough", () -> y.judge(0, 3), 1);
        due("not open then", () -> y.judge(0, 2), 0);
        due("no wear is left", () -> y.bar(0, 3), 0);
        NineBars open = Boxes.told("bar 2 at 1;");
        Boxes.lay(open, 0, 0, 0, 1);
        due("ahead of all", () -> open.judge(0, 3), -2);
        about("promise 14");
        due("all", () -> y.perform(0), 5);
        due("stand", y::stand, 1);
        due("steps", () -> y.bar(0, 3), 3);
        Boxes.lay(y, 1, 0, 0, 0, 1);
        due("till one doesn't go", () -> y.perform(1), 1);
        due("and no further", y::stand, 0);
        refused("no tray", () -> y.perform(-1), NO_SUCH);
        refused("missing", () -> y.perform(3), STATE);
    }

    private static void thieves() {
        about("promise 15");
        // seed 1: draws 16838, 5758, 10113, 17515, 31051, 5627 (the well known row), so of two bars: 0 down, 1 up, 1 up
        NineBars x = Boxes.told("bar 2;bar 4;");
        due("first doesn't go", () -> x.thief(1, 1), 0);
        due("two of three", () -> x.thief(1, 3), 2);
        due("stand", x::stand, 4);
        NineBars y = Boxes.told("bar 2;");
        due("stops when it is open", () -> y.thief(5, 60), 1);
        due("is open already", () -> y.thief(5, 60), 0);
        due("made", () -> y.count(6), 1);
        refused("times", () -> y.thief(1, 0), ARGUMENT);
        refused("times", () -> y.thief(1, 61), ARGUMENT);
        refused("no bars", () -> new NineBars().thief(1, 1), STATE);
        refused("times first", () -> new NineBars().thief(1, 61), ARGUMENT);
        NineBars z = Boxes.told("bar 4;bar 4 open 0;wear 1;");
        z.thief(-77, 20);
        due("it wears", () -> z.bar(0, 4) + z.bar(1, 4) > 0 ? 1 : 0, 1);
    }

    private static void reach() {
        NineBars x = Boxes.told("bar 3;bar 2;rule 0 1 to 2 if 1 at 1;rule 1 0 to 1 if 0 at 2;");
        NineBars big = Boxes.told(BIG);
        about("promise 16");
        due("0 and 1 alone", x::reached, 2);
        due("spent", big::reached, -1000);
        due("no bars", () -> new NineBars().reached(), 1);
        about("promise 17");
        due("can", () -> is(x.canBe(1)), 1);
        due("this one", () -> is(x.canBe(0)), 1);
        due("can't", () -> is(x.canBe(2)), 0);
        refused("stand", () -> is(x.canBe(6)), NO_SUCH);
        refused("stand", () -> is(x.canBe(-1)), NO_SUCH);
        refused("spent", () -> is(big.canBe(0)), STATE);
        refused("stand first", () -> is(big.canBe(65536)), NO_SUCH);
        about("promise 22");
        due("within 0", () -> x.within(0), 1);
        due("within 999", () -> x.within(999), 2);
        NineBars free = Boxes.told("bar 3;bar 3;");
        due("within 2", () -> free.within(2), 6);
        refused("n", () -> free.within(-1), ARGUMENT);
        refused("n", () -> free.within(1000), ARGUMENT);
        refused("spent first", () -> big.within(1000), STATE);
        about("promise 23");
        NineBars y = Boxes.told("bar 2 at 1;bar 2;rule 0 0 to 1 if 1 at 1;rule 1 0 to 1 if 0 at 1;");
        y.step(0, false);
        due("not from now", () -> is(y.canBe(1)), 0);
        due("from the start", () -> is(y.fromStart(1)), 1);
        refused("stand", () -> is(y.fromStart(4)), NO_SUCH);
        refused("spent", () -> is(big.fromStart(0)), STATE);
        refused("stand first", () -> is(big.fromStart(-1)), NO_SUCH);
        NineBars z = Boxes.told("bar 2;bar 2;rule 0 0 to 1 if 1 at 1;rule 1 1 to 0 if 0 at 1;wear 1;");
        z.step(1, true);
        due("bar 1 worn as now", () -> is(z.fromStart(3)), 1);
        about("promise 25");
        due("there, not back", y::oneWays, 0);
        NineBars one = Boxes.told("bar 2;bar 2;rule 0 0 to 1 if 1 at 1;");
        due("0 goes down with 1 at 0, not back", () -> {
            one.step(1, true);
            return one.oneWays();
        }, 1);
        refused("spent", big::oneWays, STATE);
    }

    private static void shortest() {
        about("promise 18");
        NineBars x = Boxes.told(LOCK);
        long[] verse = {3, 1, 2, 1, 3};
        due("steps", () -> x.shortest(0, 5, -1), 5);
        for (int i = 0; i < verse.length; i++) {
            int k = i;
            due("step " + i, () -> x.shortest(0, 5, k), verse[k]);
        }
        due("not so many", () -> x.shortest(0, 5, 5), -1);
        due("not so many", () -> x.shortest(0, 5, -2), -1);
        due("to itself", () -> x.shortest(3, 3, -1), 0);
        due("down is free", () -> x.shortest(2, 0, -1), 2);
        NineBars f = Boxes.told(FREE);
        due("the first by numbers", () -> f.shortest(0, 3, 0), 1);
        due("down and up", () -> f.shortest(2, 1, 0), 1);
        due("down and up", () -> f.shortest(1, 2, 0), 0);
        NineBars none = Boxes.told("bar 2;bar 2;rule 0 0 to 1 if 1 at 0 and 1 at 1;");
        due("there is none", () -> none.shortest(0, 1, -1), -1);
        due("there is none", () -> none.shortest(0, 1, 0), -1);
        NineBars big = Boxes.told(BIG);
        refused("from", () -> x.shortest(6, 0, -1), NO_SUCH);
        refused("to", () -> x.shortest(0, -1, -1), NO_SUCH);
        refused("spent", () -> big.shortest(0, 0, -1), STATE);
        refused("to first", () -> big.shortest(0, 65536, -1), NO_SUCH);
        about("promise 19");
        due("steps", () -> x.opening(-1), 5);
        due("first", () -> x.opening(0), 3);
        due("last", () -> x.opening(4), 3);
        due("not so many", () -> x.opening(5), -1);
        due("none", () -> none.opening(-1), -1);
        due("none", () -> none.opening(0), -1);
        due("open", () -> new NineBars().opening(-1), 0);
        refused("spent", () -> big.opening(0), STATE);
        x.step(1, true);
        due("from now", () -> x.opening(-1), 4);
        due("from now", () -> x.opening(0), 1);
        about("promise 20");
        NineBars y = Boxes.told("bar 4;bar 3;bar 2;");
        due("6! / 3! 2! 1!", y::ways, 60);
        due("none", none::ways, 0);
        due("open", () -> new NineBars().ways(), 1);
        due("one", x::ways, 1);
        refused("spent", big::ways, STATE);
        NineBars wide = Boxes.told("bar 4;bar 4;bar 4;bar 4;bar 4;bar 4;bar 4;");
        due("21! / 3!^7", wide::ways, 182509367040000L);
    }

    private static void farthest() {
        about("promise 21");
        NineBars x = Boxes.told(RINGS);
        due("steps", () -> x.farthest(0), 7);
        due("stand", () -> x.farthest(1), 4);
        NineBars y = Boxes.told("bar 3 at 1;bar 2;");
        due("the least", () -> y.farthest(1), 3);
        due("steps", () -> y.farthest(0), 2);
        due("no bars", () -> new NineBars().farthest(1), 0);
        NineBars big = Boxes.told(BIG);
        refused("what", () -> x.farthest(2), ARGUMENT);
        refused("what", () -> x.farthest(-1), ARGUMENT);
        refused("spent first", () -> big.farthest(2), STATE);
    }

    private static void dead() {
        about("promise 24");
        // bar 0 goes up always, never down again; bar 1 goes up only while 0 is at 0
        NineBars x = Boxes.told("bar 2;bar 2;rule 0 1 to 0 if 1 at 0 and 1 at 1;rule 1 0 to 1 if 0 at 0;");
        due("how many", () -> x.dead(0), 1);
        due("the least", () -> x.dead(1), 1);
        NineBars y = Boxes.told(RINGS);
        due("none", () -> y.dead(0), 0);
        due("none", () -> y.dead(1), -1);
        NineBars big = Boxes.told(BIG);
        refused("what", () -> x.dead(2), ARGUMENT);
        refused("what", () -> x.dead(-1), ARGUMENT);
        refused("spent first", () -> big.dead(2), STATE);
        about("promise 26");
        NineBars r = Boxes.told(RINGS);
        due("of bar 0", () -> r.fewestOf(0), 3);
        due("of bar 1", () -> r.fewestOf(1), 1);
        NineBars lock = Boxes.told(LOCK);
        due("of bar 0", () -> lock.fewestOf(0), 2);
        due("of bar 1", () -> lock.fewestOf(1), 3);
        due("open", () -> Boxes.told("bar 2 at 1;").fewestOf(0), 0);
        x.step(0, true);
        due("can't be", () -> x.fewestOf(0), -1);
        // one step of bar 0 less for many of bar 1: 0 -> 1 goes at once only where 1 is at 3
        NineBars long1 = Boxes.told("bar 2;bar 4 open 0;rule 0 0 to 1 if 1 at 3;");
        due("others as many as one likes", () -> long1.fewestOf(0), 1);
        due("and 3 up, 3 down of bar 1", () -> long1.fewestOf(1), 6);
        refused("bar", () -> r.fewestOf(3), NO_SUCH);
        refused("bar first", () -> big.fewestOf(8), NO_SUCH);
        refused("spent", () -> big.fewestOf(0), STATE);
    }

    private static void musts() {
        about("promise 27");
        NineBars x = Boxes.told(LOCK);
        due("how many", () -> x.musts(0), 6);
        due("now", () -> x.musts(10), 0);
        due("k-th", () -> x.musts(13), 1);
        due("open", () -> x.musts(15), 5);
        due("not so many", () -> x.musts(16), -1);
        NineBars f = Boxes.told(FREE);
        due("both ends", () -> f.musts(0), 2);
        due("open is the next", () -> f.musts(11), 3);
        due("not so many", () -> f.musts(12), -1);
        NineBars none = Boxes.told("bar 2;bar 2;rule 0 0 to 1 if 1 at 0 and 1 at 1;");
        due("can't be open", () -> none.musts(0), 0);
        due("can't be open", () -> none.musts(10), -1);
        due("is open", () -> Boxes.told("bar 2 at 1;").musts(0), 1);
        due("much", () -> x.musts(Integer.MAX_VALUE), -1);
        NineBars big = Boxes.told(BIG);
        refused("what", () -> x.musts(9), ARGUMENT);
        refused("what", () -> x.musts(-1), ARGUMENT);
        refused("spent first", () -> big.musts(1), STATE);
    }

    private static void halves() {
        about("promise 28");
        NineBars x = new NineBars();
        // the first n of 5 rings as a box: to nought as told
        NineBars rings = Boxes.told("bar 2;bar 2;bar 2;bar 2;bar 2;nested 5;");
        for (int b = 0; b < 32; b++) {
            int bits = b;
            about("promise 28");
            due("halves of " + b, () -> x.halves(5, bits), rings.shortest(bits, 0, -1));
            about("promise 29");
            int first = rings.shortest(bits, 0, 0);
            due("first of " + b, () -> x.halvesFirst(5, bits), first == -1 ? -1 : first >> 1);
        }
        about("promise 28");
        due("30 alone", () -> x.halves(30, 1 << 29), (1 << 30) - 1);
        due("all 30", () -> x.halves(30, (1 << 30) - 1), 0x2AAAAAAA);
        due("1", () -> x.halves(1, 1), 1);
        due("nought", () -> x.halves(1, 0), 0);
        refused("n", () -> x.halves(0, 0), ARGUMENT);
        refused("n", () -> x.halves(31, 0), ARGUMENT);
        refused("bits", () -> x.halves(3, 8), ARGUMENT);
        refused("bits", () -> x.halves(30, -1), ARGUMENT);
        refused("bits", () -> x.halves(30, 1 << 30), ARGUMENT);
        about("promise 29");
        due("30 alone", () -> x.halvesFirst(30, 1 << 29), 0);
        due("all 30", () -> x.halvesFirst(30, (1 << 30) - 1), 1);
        due("nought", () -> x.halvesFirst(30, 0), -1);
        refused("n", () -> x.halvesFirst(31, 0), ARGUMENT);
        refused("n", () -> x.halvesFirst(-1, 0), ARGUMENT);
        refused("bits", () -> x.halvesFirst(2, 4), ARGUMENT);
    }

    private static void worn() {
        about("promise 30");
        NineBars x = Boxes.told(LOCK);
        due("bar 0, though nothing wears", () -> x.ifWorn(0), 3);
        due("bar 1", () -> x.ifWorn(1), 5);
        NineBars none = Boxes.told("bar 2;bar 2;rule 0 0 to 1 if 1 at 0 and 1 at 1;rule 1 0 to 1 if 0 at 1;");
        due("opens", () -> none.ifWorn(0), 2);
        due("can't be", () -> none.ifWorn(1), -1);
        due("nothing wears by it", () -> none.opening(-1), -1);
        NineBars big = Boxes.told(BIG);
        refused("bar", () -> x.ifWorn(2), NO_SUCH);
        refused("bar first", () -> big.ifWorn(-1), NO_SUCH);
        refused("spent", () -> big.ifWorn(0), STATE);
        about("promise 31");
        due("bar 0", x::weakest, 0);
        due("bar 0", none::weakest, 0);
        NineBars second = Boxes.told("bar 2;bar 3;rule 1 0 to 1 if 0 at 1;rule 1 1 to 2 if 0 at 0;");
        due("bar 1: 3 steps, bar 0: 5", second::weakest, 1);
        due("all alike: the first", () -> Boxes.told(RINGS).weakest(), 0);
        NineBars never = Boxes.told("bar 2;bar 2;rule 0 0 to 1 if 1 at 0 and 1 at 1;rule 1 0 to 1 if 0 at 0 and 0 at 1;");
        due("none lets it", never::weakest, -1);
        due("no bars", () -> new NineBars().weakest(), -1);
        refused("spent", big::weakest, STATE);
    }

    private static void hardest() {
        about("promise 32");
        // 0 can go up only where 1 is at 2: up1 up1 up0 down1 .. open is at 1 of bar 1
        NineBars x = Boxes.told("bar 2;bar 3 open 1;");
        long[] want = {4, 0, 0, 1, 1, 0, 2};
        for (int i = 0; i < want.length; i++) {
            int what = i;
            due("hardest, " + i, () -> x.hardest(999, what), want[what]);
        }
        due("not above 3: no such, so 2 by the first", () -> x.hardest(3, 0), 2);
        due("the first: 0 to 1 if 1 at 0", () -> x.hardest(3, 6), 0);
        due("not above 1: none", () -> x.hardest(1, 0), -1);
        due("none", () -> x.hardest(1, 4), -1);
        due("one bar", () -> Boxes.told("bar 4;").hardest(9, 0), -1);
        NineBars full = Boxes.told("bar 2;bar 3 open 1;" + "rule 0 1 to 0 if 1 at 0;".repeat(24));
        due("as a 25th", () -> full.hardest(999, 0), 4);
        NineBars eased = Boxes.told("bar 2;bar 2;rule 0 0 to 1 if 1 at 0 and 1 at 1;");
        due("one more makes it go: it can be open by 1 at 1 ahead", () -> eased.hardest(999, 0), 2);
        due("is open: 0", () -> Boxes.told("bar 2 at 1;bar 2 at 1;").hardest(1, 0), 0);
        refused("m", () -> x.hardest(0, 0), ARGUMENT);
        refused("m", () -> x.hardest(1000, 0), ARGUMENT);
        refused("what", () -> x.hardest(1, 7), ARGUMENT);
        refused("what", () -> x.hardest(1, -1), ARGUMENT);
        // bar 0 must go up twice, with bar 1 at 1, then at 2: one rule more for it can be of not 0 alone
        NineBars twice = Boxes.told("bar 2;bar 3;bar 2;rule 1 1 to 2 if 0 at 0 and 2 at 1;rule 1 2 to 1 if 0 at 0 and 0 at 1;"
                + "rule 1 1 to 0 if 0 at 0 and 0 at 1;rule 2 0 to 1 if 0 at 1 and 1 at 1;");
        long[] not = {6, 0, 0, 1, 1, 1, 0};
        for (int i = 0; i < not.length; i++) {
            int what = i;
            due("not, " + i, () -> twice.hardest(6, what), not[what]);
        }
        NineBars many = Boxes.told("bar 4;bar 2;bar 3;bar 3;bar 3;bar 3;");
        refused("648 stands", () -> many.hardest(1, 0), STATE);
        refused("what first", () -> many.hardest(1, 7), ARGUMENT);
        due("576 stands", () -> Boxes.told("bar 4;bar 4;bar 4;bar 3;bar 3;").hardest(20, 0), 13);
    }

    private static void known() {
        about("promise 33");
        NineBars x = Boxes.told(FREE);
        Boxes.lay(x, 0, 0, -1, -1);
        due("nothing known", () -> x.known(0), 2);
        Boxes.lay(x, 0, 0, -1, -1, -1, -1);
        due("longer ones, open ahead or not", () -> x.known(0), 8);
        Boxes.lay(x, 0, 0, 3, -1);
        due("one known", () -> x.known(0), 1);
        Boxes.lay(x, 0, 0, 1, 0, -1, -1);
        due("up and down known", () -> x.known(0), 2);
        x.step(0, true);
        Boxes.lay(x, 0, 0, -1);
        due("one number", () -> x.known(0), 1);
        x.step(0, false);
        Boxes.lay(x, 0, 0, 2, -1);
        due("doesn't go", () -> x.known(0), 0);
        Boxes.lay(x, 0, 0, 3, 77);
        due("no step", () -> x.known(0), 0);
        Boxes.lay(x, 0, 3, (1L << 32) + 1, -1);
        due("no step", () -> x.known(0), 0);
        Boxes.lay(x, 0, 3, (1L << 33) + 1, -1);
        due("no step", () -> x.known(0), 0);
        Boxes.lay(x, 0, 0, -2, -1);
        due("no step, and not NONE", () -> x.known(0), 0);
        Boxes.lay(x, 0, 0);
        refused("not 1", () -> x.known(0), ARGUMENT);
        refused("tray", () -> x.known(4), NO_SUCH);
        refused("missing", () -> x.known(1), STATE);
        NineBars big = Boxes.told(BIG);
        big.tray(0, 0, 0);
        refused("spent first", () -> big.known(0), STATE);
        NineBars many = Boxes.told("bar 2;bar 2;bar 2;bar 2;bar 2;bar 2;bar 2;bar 2;");
        long[] row = new long[40];
        java.util.Arrays.fill(row, -1);
        Boxes.lay(many, 0, 0, row);
        java.math.BigInteger all = java.math.BigInteger.ZERO;
        // rows of 40 steps among 8 that move each an odd number of times: sum of (-1)^j C(8, j) (8 - 2j)^40 / 2^8
        long[] choose = {1, -8, 28, -56, 70, -56, 28, -8, 1};
        for (int j = 0; j <= 8; j++) {
            all = all.add(java.math.BigInteger.valueOf(8 - 2 * j).pow(40).multiply(java.math.BigInteger.valueOf(choose[j])));
        }
        long want = all.shiftRight(8).longValue();
        due("what is above a long is lost", () -> many.known(0), want);
    }

    private static void keeps() {
        about("promise 34");
        NineBars x = Boxes.told("bar 2;bar 2;rule 1 0 to 1 if 0 at 1;");
        due("one kept: itself", () -> x.keeps(1, 0), 1);
        due("the first line", () -> x.keeps(1, 1), 0);
        due("not so many kept", () -> x.keeps(1, 2), -1);
        due("both kept, in one order alone", () -> x.keeps(2, 0), 1);
        NineBars y = Boxes.told("bar 2;bar 2;bar 2;rule 1 0 to 1 if 0 at 1;");
        // 1 3 5: with 1 and 3 kept only itself; with 1 and 5: 5 3 can't be, 3 needs 0; with 3 and 5 both ways
        due("two ways", () -> y.keeps(2, 0), 2);
        due("first", () -> y.keeps(2, 1), 1);
        due("second", () -> y.keeps(2, 2), 2);
        NineBars one = Boxes.told("bar 2;");
        due("one line", () -> one.keeps(1, 0), 1);
        due("not so many lines", () -> one.keeps(2, 0), -1);
        due("no lines", () -> new NineBars().keeps(1, 0), -1);
        NineBars r = Boxes.told(RINGS);
        due("one way alone", () -> r.keeps(2, 0), 1);
        NineBars none = Boxes.told("bar 2;bar 2;rule 0 0 to 1 if 1 at 0 and 1 at 1;");
        due("no verse", () -> none.keeps(1, 0), -1);
        NineBars six = Boxes.told("bar 2;bar 2;bar 2;bar 2;bar 2;bar 2;nested 6;");
        due("42 steps of all six: too long", () -> six.opening(-1), 42);
        due("too long", () -> six.keeps(1, 0), -1);
        six.tray(0, 0, 1);
        six.pour(0);
        six.perform(0);
        due("41 are too long", () -> six.keeps(1, 0), -1);
        six.pour(0);
        six.perform(0);
        due("40 are not", () -> six.keeps(1, 0), 1);
        // 1 3 0, and with the first and last kept 5 3 4 and 7 3 6, too
        NineBars fro = Boxes.told("bar 2 open 0;bar 2;bar 2 open 0;bar 2 open 0;"
                + "rule 1 0 to 1 if 0 at 1;rule 1 0 to 1 if 2 at 1;rule 1 0 to 1 if 3 at 1;");
        due("three ways to and fro", () -> fro.keeps(2, 0), 3);
        due("first", () -> fro.keeps(2, 1), 0);
        due("last", () -> fro.keeps(2, 2), 2);
        NineBars big = Boxes.told(BIG);
        refused("n", () -> x.keeps(0, 0), ARGUMENT);
        refused("n", () -> x.keeps(3, 0), ARGUMENT);
        refused("what", () -> x.keeps(1, 3), ARGUMENT);
        refused("what", () -> x.keeps(1, -1), ARGUMENT);
        refused("what first", () -> big.keeps(1, 3), ARGUMENT);
        refused("spent", () -> big.keeps(1, 0), STATE);
    }

    private static void fits() {
        about("promise 35");
        NineBars x = Boxes.told("bar 2;bar 3;bar 2;");
        x.tray(0, 1, 0);
        due("all facts of two others", () -> x.fits(1, 0, -1), 10);
        due("first", () -> x.fits(1, 0, 0), 100);
        due("at ahead of not", () -> x.fits(1, 0, 3), 110);
        due("last", () -> x.fits(1, 0, 9), 211);
        due("of bar 1 the others are 0 and 2", () -> x.fits(2, 0, 0), 0);
        due("not so many", () -> x.fits(1, 0, 10), -1);
        due("not so many", () -> x.fits(1, 0, -2), -1);
        // went with bar 1 at 2, 2 at 0 (stand 4); not with bar 1 at 1, 2 at 0 (stand 2)
        Boxes.lay(x, 0, 1, 2 * 4 + 1, 2 * 2);
        due("1 at 2, 1 not 1", () -> x.fits(1, 0, -1), 2);
        due("1 at 2", () -> x.fits(1, 0, 0), 102);
        due("1 not 1", () -> x.fits(1, 0, 1), 111);
        Boxes.lay(x, 1, 0, 0, 1);
        due("went and didn't: none", () -> x.fits(0, 1, -1), 0);
        Boxes.lay(x, 1, 0, 24);
        refused("no stand", () -> x.fits(0, 1, -1), ARGUMENT);
        Boxes.lay(x, 1, 0, -1);
        refused("no stand", () -> x.fits(0, 1, -1), ARGUMENT);
        Boxes.lay(x, 1, 0, 23);
        due("last stand", () -> x.fits(0, 1, -1), 5);
        refused("bar ahead of tray", () -> x.fits(6, 3, -1), NO_SUCH);
        refused("bar", () -> x.fits(-1, 0, -1), NO_SUCH);
        refused("tray", () -> x.fits(0, 4, -1), NO_SUCH);
        refused("missing", () -> x.fits(0, 3, -1), STATE);
        NineBars big = Boxes.told(BIG);
        Boxes.lay(big, 0, 0, -1);
        refused("spent ahead of numbers", () -> big.fits(0, 0, -1), STATE);
        about("promise 36");
        // left 1 at 2 and 1 not 1: at 0 one of them holds
        due("where they part", () -> x.tries(1, 0, 0), 0);
        due("one is left", () -> x.tries(1, 0, 1), 1);
        NineBars y = Boxes.told("bar 2;bar 3;");
        // facts 1 at 0, at 1, at 2, not 0, not 1, not 2: with bar 1 at any place 3 hold
        y.tray(0, 0, 0);
        due("least stand", () -> y.tries(1, 0, 0), 0);
        due("3 left", () -> y.tries(1, 0, 1), 3);
        // bar 1 at 1: didn't go: at 0, at 2, not 1 are left; at 0 two hold, at 1 none, at 2 two
        Boxes.lay(y, 0, 0, 4);
        due("two left", () -> y.tries(1, 0, 1), 2);
        // bar 1 at 0 and at 1 didn't go: only 1 at 2 is left
        Boxes.lay(y, 0, 0, 0, 4);
        due("fewer than 2", () -> y.tries(1, 0, 0), -1);
        due("fewer than 2", () -> y.tries(1, 0, 1), -1);
        // bar 1 at 0 didn't go: at 1, at 2, not 0: at 0 none, at 1 two hold: stand 2 is the first such
        Boxes.lay(y, 0, 0, 0);
        due("a later stand", () -> y.tries(1, 0, 0), 2);
        refused("what, though few", () -> y.tries(1, 0, 2), ARGUMENT);
        refused("what", () -> y.tries(1, 0, -1), ARGUMENT);
        refused("bar", () -> y.tries(4, 0, 2), NO_SUCH);
        refused("missing", () -> y.tries(1, 1, 2), STATE);
        Boxes.lay(y, 0, 0, 12);
        refused("number", () -> y.tries(1, 0, 0), ARGUMENT);
    }

    private static void rows() {
        about("promise 37");
        NineBars x = Boxes.told(FREE);
        due("none but one row", () -> x.rows(0, false), 1);
        due("not open", () -> x.rows(0, true), 0);
        due("2 by 2", () -> x.rows(2, false), 4);
        due("open", () -> x.rows(2, true), 2);
        due("open sometime", () -> x.rows(3, true), 4);
        due("2^20", () -> x.rows(20, false), 1 << 20);
        due("all but those that go to and fro", () -> x.rows(20, true), (1 << 20) - (1 << 10));
        NineBars open = Boxes.told("bar 2 at 1;bar 2 at 1;");
        due("at once", () -> open.rows(0, true), 1);
        due("at once", () -> open.rows(3, true), 8);
        due("no steps", () -> new NineBars().rows(1, true), 0);
        NineBars nine = Boxes.told("bar 3;bar 3;bar 3;bar 3;bar 3;bar 3;bar 3;bar 3 at 1;bar 3 at 1;");
        due("19,683 stands", () -> nine.rows(1, false), 11);
        NineBars big = Boxes.told(BIG);
        refused("n", () -> x.rows(-1, true), ARGUMENT);
        refused("n", () -> x.rows(21, true), ARGUMENT);
        refused("n first", () -> big.rows(21, true), ARGUMENT);
        refused("spent", () -> big.rows(1, true), STATE);
    }

    private static void keys() {
        about("promise 38");
        due("open", () -> new NineBars().keys(), 0);
        due("one", () -> Boxes.told("bar 2;").keys(), 1);
        due("the other undoes it", () -> Boxes.told(FREE).keys(), -1);
        // the other must go on: up, up, up of one bar that never goes back
        NineBars x = Boxes.told("bar 4;bar 2 open 0;rule 0 1 to 0 if 1 at 1;rule 0 2 to 1 if 1 at 1;rule 1 0 to 1 if 0 at 3;");
        due("forced", x::keys, 3);
        // bar 0 alone moves once, then the other can't: he passes, and so on
        NineBars y = Boxes.told("bar 2;bar 2;rule 0 1 to 0 if 1 at 1;rule 1 0 to 1 if 0 at 0 and 0 at 1;");
        due("can't be open", y::keys, -1);
        refused("spent", () -> Boxes.told(BIG).keys(), STATE);
    }

    private static void trays() {
        NineBars x = Boxes.told(FREE);
        about("promise 39");
        due("made", () -> tray(x, 3, 0, 40), 0);
        due("zeros", () -> x.judge(3, 1), 2);
        x.write(3, 39, 1);
        tray(x, 3, 0, 40);
        due("zeros again", () -> x.judge(3, 0), 0);
        due("none in it", () -> tray(x, 3, 3, 0), 0);
        refused("tray first", () -> tray(x, 4, 4, 0), NO_SUCH);
        refused("tray", () -> tray(x, -1, 0, 0), NO_SUCH);
        refused("sort", () -> tray(x, 0, 4, 0), ARGUMENT);
        refused("sort", () -> tray(x, 0, -1, 0), ARGUMENT);
        refused("many", () -> tray(x, 0, 0, 41), ARGUMENT);
        refused("many", () -> tray(x, 0, 0, -1), ARGUMENT);
        refused("nothing was made", () -> x.perform(0), STATE);
        about("promise 40");
        long v = 0x8182838485868788L;
        long[] cut = {(byte) 0x88, (short) 0x8788, 0x85868788, v};
        for (int i = 0; i < 4; i++) {
            int sort = i;
            tray(x, 0, sort, 1);
            due("cut to sort " + i, () -> x.write(0, 0, v), cut[sort]);
        }
        refused("tray", () -> x.write(4, 0, 0), NO_SUCH);
        refused("missing", () -> x.write(1, 0, 0), STATE);
        refused("place", () -> x.write(0, 1, 0), INDEX);
        refused("place", () -> x.write(0, -1, 0), INDEX);
        about("promise 41");
        NineBars y = Boxes.told(LOCK);
        Boxes.lay(y, 0, 0, 9, 9, 9, 9, 9, 9);
        due("poured", () -> y.pour(0), 5);
        due("the rest stays", () -> y.judge(0, 0), 5);
        due("opens", () -> y.judge(0, 3), 4);
        y.tray(0, 0, 2);
        due("as many as it has", () -> y.pour(0), 2);
        due("they go", () -> y.perform(0), 2);
        due("stand", y::stand, 4);
        NineBars none = Boxes.told("bar 2;bar 2;rule 0 0 to 1 if 1 at 0 and 1 at 1;");
        none.tray(0, 0, 9);
        due("none", () -> none.pour(0), 0);
        due("none in it", () -> {
            y.tray(0, 0, 0);
            return y.pour(0);
        }, 0);
        refused("tray", () -> y.pour(4), NO_SUCH);
        refused("missing", () -> y.pour(1), STATE);
        NineBars big = Boxes.told(BIG);
        big.tray(0, 0, 0);
        refused("spent", () -> big.pour(0), STATE);
        about("promise 39");
        Boxes.tell(y, "bar 2;");
        due("a box leaves the trays", () -> y.perform(0), 0);
    }

    private static void images() {
        NineBars x = Boxes.told(LOCK + "wear 2;");
        about("promise 42");
        x.step(1, true);
        due("made", () -> image(x, 2), 0);
        refused("none such", () -> image(x, 3), NO_SUCH);
        refused("none such", () -> image(x, -1), NO_SUCH);
        about("promise 43");
        x.step(1, false);
        Boxes.lay(x, 0, 0, 1);
        x.opening(-1);
        Boxes.tell(x, "bar 2;");
        x.step(0, true);
        Boxes.tell(x, "bar 7;");
        x.feed(0, 0, 0, 0, 0);
        due("restored", () -> restore(x, 2), 0);
        due("stand", x::stand, 3);
        due("steps", () -> x.bar(1, 3), 1);
        due("box", () -> x.count(0), 5);
        due("rules", () -> x.rule(1, 1), 1);
        due("verses", () -> x.opening(-1), 4);
        due("not the fault", () -> x.fault(0), 3);
        due("not the tape", () -> x.count(7), 20);
        due("not the trays", () -> x.perform(0), 1);
        due("from the start as told", () -> is(x.fromStart(0)), 1);
        due("again", () -> restore(x, 2), 0);
        due("stand", x::stand, 3);
        refused("none such", () -> restore(x, 3), NO_SUCH);
        refused("none made", () -> restore(x, 1), STATE);
        due("an image of no bars", () -> image(x, 0), 0);
    }

    private static void counts() {
        about("promise 44");
        NineBars x = Boxes.told("bar 2;bar 3;rule 0 0 to 1 if 1 at 1;nested 2;wear 9;");
        x.feed(0, 0, 0, 0, 0);
        x.step(1, true);
        x.step(0, true);
        x.step(1, true);
        long[] want = {5, 2, 1, 2, 9, 6, 0, 20};
        // nothing went: bar 1 is nested, bar 0 has a rule
        for (int i = 0; i < want.length; i++) {
            int what = i;
            due("count " + i, () -> x.count(what), want[what]);
        }
        due("others", () -> x.count(8), -1);
        due("others", () -> x.count(-1), -1);
        due("stands, though spent", () -> Boxes.told(BIG).count(5), 65536);
        NineBars y = Boxes.told(FREE);
        y.step(0, true);
        y.step(1, true);
        y.step(0, false);
        due("steps", () -> y.count(6), 3);
        Boxes.tell(y, FREE);
        due("since the text", () -> y.count(6), 0);
    }

    /** The dearest calls, again and again, on boxes of many sizes, stay within their room. */
    private static void room() {
        about("room");
        com.sun.management.ThreadMXBean threads =
                (com.sun.management.ThreadMXBean) java.lang.management.ManagementFactory.getThreadMXBean();
        long before = threads.getThreadAllocatedBytes(Thread.currentThread().getId());
        NineBars x = new NineBars();
        String text = "";
        for (int bars = 1; bars <= 9; bars++) {
            text = text + "bar 3;";
            Boxes.tell(x, text);
            Boxes.lay(x, 0, 0, -1, -1, -1);
            for (int i = 0; i < 20; i++) {
                x.reached();
                x.known(0);
                x.keys();
                x.weakest();
                x.fromStart(0);
                x.rows(3, true);
                x.keeps(2, 0);
                x.step(0, i % 2 == 0);
            }
        }
        long bytes = threads.getThreadAllocatedBytes(Thread.currentThread().getId()) - before;
        due("rows are used again: " + bytes, () -> is(bytes < 4_000_000), 1);
    }
}
