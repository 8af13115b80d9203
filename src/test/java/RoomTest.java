import com.sun.management.ThreadMXBean;
import java.lang.management.ManagementFactory;

/** An object's 512 calls: the last one answers as the first, and all of them live in the room that a run has. */
public final class RoomTest extends Check {
    private static final int CALLS = 512;
    /** A run has room for 7,300,000 fields and elements, of a byte each at least, and 600,000 objects, of 16 bytes each. */
    private static final long ROOM = 7_300_000;
    private static final ThreadMXBean THREADS = (ThreadMXBean) ManagementFactory.getThreadMXBean();

    private int made;
    private long sum;
    private final NineBars x = new NineBars();

    public static void main(String[] args) {
        words("An object is used for at most 512 calls after it has been made; what later calls answer is free.");
        lastAsFirst();
        room("boxes that grow by little", RoomTest::growing);
        room("boxes as large as can be asked", RoomTest::largest);
        room("an image a call, a text a call", RoomTest::held);
        room("calls that throw", RoomTest::thrown);
        room("hardest for each m", RoomTest::notches);
        end("RoomTest");
    }

    private interface Run {
        void make(RoomTest t);
    }

    // ---- the last call

    private static void lastAsFirst() {
        String text = "bar 3;bar 2;rule 0 0 to 1 if 1 at 1;rule 0 1 to 2 if 1 at 0;wear 2;";
        RoomTest t = new RoomTest();
        growing(t);
        due(() -> t.made, CALLS - 20);
        // four feeds and a box(), then fifteen that ask it
        due(() -> Boxes.tell(t.x, text), 5);
        due(() -> t.x.reached(), 6);
        due(() -> is(t.x.canBe(5)), 1);
        due(() -> t.x.shortest(0, 5, 0), 3);
        due(() -> t.x.opening(-1), 5);
        due(() -> t.x.ways(), 1);
        due(() -> t.x.farthest(1), 5);
        due(() -> t.x.oneWays(), 2);
        due(() -> t.x.fewestOf(1), 3);
        due(() -> t.x.musts(12), 4);
        due(() -> t.x.ifWorn(0), 3);
        due(() -> t.x.weakest(), 0);
        due(() -> t.x.hardest(999, 0), Boxes.told(text).hardest(999, 0));
        due(() -> t.x.keeps(2, 0), Boxes.told(text).keeps(2, 0));
        due(() -> t.x.rows(20, true), Boxes.told(text).rows(20, true));
        due(() -> t.x.keys(), Boxes.told(text).keys());
    }

    // ---- the room

    private static void room(String what, Run run) {
        // once ahead, so that what the machine loads isn't counted
        run.make(new RoomTest());
        long from = THREADS.getThreadAllocatedBytes(Thread.currentThread().getId());
        RoomTest t = new RoomTest();
        run.make(t);
        long bytes = THREADS.getThreadAllocatedBytes(Thread.currentThread().getId()) - from;
        due(what + ": calls", () -> is(t.made > CALLS - 40 && t.made <= CALLS), 1);
        due(what + ": " + bytes + " bytes", () -> is(bytes > 0 && bytes < ROOM), 1);
        if (Boolean.getBoolean("bytes")) {
            System.out.println(what + ": " + bytes + " bytes, " + t.sum);
        }
    }

    private void tell(String text) {
        made += (text.length() + 19) / 20 + 1;
        sum += Boxes.tell(x, text);
    }

    /** Thirteen calls, that take all rows an object has. */
    private void askAll() {
        made += 13;
        sum += x.reached() + x.opening(-1) + x.ways() + x.fewestOf(0) + x.weakest() + x.keys() + x.dead(0) + x.known(0);
        sum += x.shortest(0, 1, -1) + x.musts(0) + x.keeps(2, 0) + x.rows(3, true) + (x.fromStart(1) ? 1 : 0);
    }

    private void lay() {
        made += 2;
        x.tray(0, 0, 1);
        sum += x.write(0, 0, -1);
    }

    private static void growing(RoomTest t) {
        int[] places = {2, 0, 0, 0, 0, 0, 0, 0, 0};
        t.lay();
        while (t.made + 19 <= CALLS - 20) {
            StringBuilder text = new StringBuilder();
            for (int p : places) {
                text.append(p == 0 ? "" : "bar " + p + ";");
            }
            t.tell(text.toString());
            t.askAll();
            grow(places);
        }
        while (t.made < CALLS - 20) {
            t.made++;
            t.sum += t.x.stand();
        }
    }

    /** The next larger one of nine bars of 2, 3 places. */
    private static void grow(int[] places) {
        for (int b = 0; b < places.length; b++) {
            if (places[b] == 2) {
                places[b] = 3;
                return;
            }
            if (places[b] == 0) {
                places[b] = 2;
                places[0] = 2;
                return;
            }
        }
    }

    private static void largest(RoomTest t) {
        t.lay();
        t.tell("bar 3;".repeat(9));
        while (t.made + 13 <= CALLS) {
            t.askAll();
        }
    }

    private static void held(RoomTest t) {
        t.lay();
        while (t.made + 16 + 3 <= CALLS) {
            t.tell(t.made % 2 == 0 ? "bar 2;bar 3;wear 1;" : "bar 4;bar 4;bar 4;");
            t.x.image(t.made % 3);
            t.x.step(0, true);
            t.x.restore(t.made % 3);
            t.made += 3;
            t.askAll();
        }
    }

    private static void thrown(RoomTest t) {
        while (t.made < CALLS) {
            t.made++;
            try {
                t.sum += t.x.bar(t.made, 0);
            } catch (java.util.NoSuchElementException e) {
                t.sum++;
            }
        }
    }

    private static void notches(RoomTest t) {
        t.tell("bar 2;".repeat(6));
        while (t.made < CALLS) {
            t.made++;
            t.sum += t.x.hardest(t.made, t.made % 7);
        }
    }
}
