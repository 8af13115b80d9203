import java.lang.reflect.InvocationTargetException;
import java.lang.reflect.Method;
import java.lang.reflect.Modifier;
import java.util.ArrayList;
import java.util.Arrays;
import java.util.Comparator;
import java.util.List;
import java.util.Random;

/** Whatever a call is given, in whatever state: it throws nothing but what its line of the face names, and that itself. */
public final class MachineTest {
    private static final int[] INTS = {Integer.MIN_VALUE, Integer.MIN_VALUE + 1, -65536, -1000, -128, -3, -2, -1, 0, 1, 2, 3, 4, 5, 6,
        7, 8, 9, 10, 11, 13, 17, 18, 19, 23, 24, 25, 30, 31, 32, 39, 40, 41, 60, 61, 64, 128, 900, 901, 999, 1000, 19682, 19683,
        20000, 20736, 65536, 262143, 262144, 1 << 30, Integer.MAX_VALUE - 1, Integer.MAX_VALUE};
    private static final int ONE = 9;
    private static final long[] LONGS = {Long.MIN_VALUE, Integer.MIN_VALUE - 1L, -1, 0, 1, 2, 3, 17, 18, 127, 128, 255, 256, 65535,
        1L << 31, 1L << 32, (1L << 32) + 1, Long.MAX_VALUE - 1, Long.MAX_VALUE};
    private static final String[] TEXTS = {"", "bar 2;", "bar 4 at 3 open 1;", "bar 2;bar 2;nested 2;wear 1;",
        "bar 3;bar 2;rule 0 0 to 1 if 1 at 1;rule 0 1 to 2 if 1 at 0;wear 2;",
        "bar 4;bar 3 at 2 open 0;bar 2;nested 3;rule 1 2 to 1 if 0 not 0 and 2 at 0 and 0 not 2 and 0 at 3;wear 99;",
        "bar 2;bar 2;bar 2;bar 2;bar 2;bar 2;bar 2;bar 2;bar 2;nested 9;", "bar 3;bar 3;bar 3;bar 3;bar 3;bar 3;bar 3;bar 3;bar 3;",
        "bar 4;bar 4;bar 4;bar 4;bar 4;bar 4;bar 4;bar 4;bar 4;wear 3;", Boxes.oneWay(0, 63)};

    private static int calls = 0;
    private static int thrown = 0;
    private static int wrong = 0;

    private MachineTest() {
    }

    public static void main(String[] args) throws IllegalAccessException {
        List<Method> face = new ArrayList<>();
        for (Method m : NineBars.class.getDeclaredMethods()) {
            if (Modifier.isPublic(m.getModifiers())) {
                face.add(m);
            }
        }
        face.sort(Comparator.comparing(Method::getName));
        for (int run = 0; run < 40; run++) {
            byDraws(new Random(run), face);
        }
        for (String text : TEXTS) {
            for (Method m : face) {
                alone(text, m);
            }
        }
        System.out.println("MachineTest: " + calls + " calls, " + thrown + " thrown, " + wrong + " wrong");
        if (wrong != 0) {
            System.exit(1);
        }
    }

    /** A call on an object of its own, again and again: each two of what it is given go through all values. */
    private static void alone(String text, Method m) throws IllegalAccessException {
        NineBars x = Boxes.told(text);
        for (int t = 0; t < 4; t++) {
            x.tray(t, t, t == 3 ? 0 : 40);
        }
        Object[] given = new Object[m.getParameterCount()];
        boolean large = x.count(5) > 600 && x.stand() != NineBars.SPENT;
        if (given.length == 0 || large) {
            for (int n = 0; n < given.length; n++) {
                given[n] = value(m.getParameterTypes()[n], ONE);
            }
            call(x, m, given);
            return;
        }
        for (int i = 0; i < given.length; i++) {
            for (int k = i; k < given.length; k++) {
                fill(x, m, given, i, k);
            }
        }
    }

    /** Two of what is given go through all values, the others are 0. */
    private static void fill(NineBars x, Method m, Object[] given, int i, int k) throws IllegalAccessException {
        Class<?>[] types = m.getParameterTypes();
        for (int n = 0; n < given.length; n++) {
            given[n] = value(types[n], ONE - 1);
        }
        for (int a = 0; a < INTS.length; a++) {
            given[i] = value(types[i], a);
            for (int b = 0; b < (i == k ? 1 : INTS.length); b++) {
                given[k] = value(types[k], i == k ? a : b);
                call(x, m, given);
            }
        }
    }

    private static Object value(Class<?> type, int i) {
        if (type == boolean.class) {
            return i % 2 == 1;
        }
        return type == long.class ? (Object) LONGS[i % LONGS.length] : (Object) INTS[i];
    }

    private static void byDraws(Random r, List<Method> face) throws IllegalAccessException {
        NineBars x = new NineBars();
        for (int i = 0; i < 512; i++) {
            if (i % 32 == 0) {
                Boxes.tell(x, TEXTS[r.nextInt(TEXTS.length)]);
            }
            Method m = face.get(r.nextInt(face.size()));
            Class<?>[] types = m.getParameterTypes();
            Object[] given = new Object[types.length];
            for (int k = 0; k < given.length; k++) {
                boolean near = r.nextInt(4) > 0;
                given[k] = types[k] == int.class && near ? (Object) (r.nextInt(8) - 1) : value(types[k], r.nextInt(INTS.length));
            }
            call(x, m, given);
        }
    }

    private static void call(NineBars x, Method m, Object[] given) throws IllegalAccessException {
        calls++;
        try {
            m.invoke(x, given);
        } catch (InvocationTargetException e) {
            thrown++;
            if (!Arrays.asList(m.getExceptionTypes()).contains(e.getCause().getClass())) {
                wrong++;
                System.out.println("MachineTest: " + m.getName() + Arrays.toString(given) + " throws " + e.getCause());
            }
        }
    }
}
