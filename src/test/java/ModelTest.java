import java.util.Random;

/** Runs of calls by draws, on a NineBars and on the Model: all answers must be alike. */
public final class ModelTest {
    private interface Call {
        long answer();
    }

    private static int wrong = 0;
    private static int calls = 0;
    private static int thrown = 0;

    public static void main(String[] args) {
        int runs = args.length > 0 ? Integer.parseInt(args[0]) : 400;
        long seed = args.length > 1 ? Long.parseLong(args[1]) : 0;
        for (int run = 0; run < runs && wrong == 0; run++) {
            run(new Random(seed + run), run % 4);
        }
        System.out.println("ModelTest: " + calls + " calls, " + thrown + " thrown, " + wrong + " wrong");
        if (wrong != 0) {
            System.exit(1);
        }
    }

    private static String answer(Call call) {
        try {
            return Long.toString(call.answer());
        } catch (RuntimeException e) {
            return e.getClass().getName();
        }
    }

    private final NineBars x = new NineBars();
    private final Model y = new Model();
    private final StringBuilder log = new StringBuilder();

    private void same(String call, Call ours, Call theirs) {
        String want = answer(theirs);
        String got = answer(ours);
        calls++;
        thrown += want.startsWith("java") ? 1 : 0;
        log.append(call).append(" -> ").append(got).append('\n');
        if (!got.equals(want)) {
            wrong++;
            System.out.println(log.substring(Math.max(0, log.length() - 3000)) + "WRONG: " + call + " answered " + got + ", due is " + want + "\n");
            log.setLength(0);
        }
    }

    private static void run(Random r, int sort) {
        ModelTest t = new ModelTest();
        if (sort == 3) {
            for (int i = 0; i < 120; i++) {
                t.tell(r, spoiled(r, text(r, 1 + r.nextInt(9), 1000000)));
            }
            return;
        }
        int most = sort == 0 ? 30 : sort == 1 ? 100 : 250;
        for (int i = 0; i < 6; i++) {
            t.tell(r, text(r, 1 + r.nextInt(sort == 2 ? 8 : 4), most));
            for (int k = 0; k < 60; k++) {
                t.call(r, r.nextInt(40), most);
            }
        }
    }

    private void feed(String text) {
        for (int i = 0; i < text.length(); i += 20) {
            int[] w = new int[5];
            for (int k = 0; k < 20; k++) {
                w[k / 4] = w[k / 4] << 8 | (i + k < text.length() ? text.charAt(i + k) & 255 : 32);
            }
            same("feed", () -> x.feed(w[0], w[1], w[2], w[3], w[4]), () -> y.feed(w[0], w[1], w[2], w[3], w[4]));
        }
    }

    private void tell(Random r, String text) {
        feed(text);
        int n = r.nextInt(20) == 0 ? r.nextInt(text.length() + 22) - 1 : text.length();
        log.append(text).append('\n');
        same("box(" + n + ")", () -> x.box(n), () -> y.box(n));
        if (r.nextInt(40) == 0) {
            same("box(0)", () -> x.box(0), () -> y.box(0));
        }
        for (int i = -1; i < 3; i++) {
            int what = i;
            same("fault(" + what + ")", () -> x.fault(what), () -> y.fault(what));
        }
        for (int i = -1; i < 9; i++) {
            int what = i;
            same("count(" + what + ")", () -> x.count(what), () -> y.count(what));
        }
    }

    // ---- texts

    private static String text(Random r, int bars, int mostStands) {
        StringBuilder s = new StringBuilder();
        int[] places = new int[9];
        int stands = 1;
        int many = 0;
        boolean allTwo = r.nextInt(3) == 0;
        for (int b = 0; b < bars && stands * 4 <= mostStands; b++) {
            places[b] = allTwo ? 2 : 2 + r.nextInt(3);
            stands *= places[b];
            many++;
            s.append("bar ").append(places[b]);
            if (r.nextInt(3) == 0) {
                s.append(" at ").append(r.nextInt(places[b]));
            }
            if (r.nextInt(3) == 0) {
                s.append(" open ").append(r.nextInt(places[b]));
            }
            s.append(";");
            if (r.nextInt(5) == 0) {
                s.append('\n');
            }
        }
        if (many >= 2 && r.nextInt(3) == 0) {
            s.append("nested ").append(2 + r.nextInt(many - 1)).append(";");
        }
        int rules = many < 2 ? 0 : r.nextInt(r.nextInt(4) == 0 ? 26 : 9);
        for (int i = 0; i < rules && s.length() < 800; i++) {
            int b = r.nextInt(many);
            int from = r.nextInt(places[b]);
            int to = from == 0 ? 1 : from == places[b] - 1 ? from - 1 : from + (r.nextBoolean() ? 1 : -1);
            s.append("rule ").append(b).append(' ').append(from).append(" to ").append(to).append(" if ");
            int facts = r.nextInt(3) == 0 ? 1 + r.nextInt(4) : 1;
            for (int f = 0; f < facts; f++) {
                int c = (b + 1 + r.nextInt(many - 1)) % many;
                s.append(f == 0 ? "" : " and ").append(c).append(r.nextInt(3) == 0 ? " not " : " at ").append(r.nextInt(places[c]));
            }
            s.append(" ; ");
        }
        if (r.nextInt(2) == 0) {
            s.append("wear ").append(r.nextInt(6)).append(";");
        }
        return s.length() > 900 ? "bar 3;" : s.toString();
    }

    private static final String[] PIECES = {"bar", "rule", "nested", "wear", "at", "open", "to", "if", "and", "not", ";",
        "0", "1", "2", "3", "4", "9", "10", "99", "100", "999", "0000", "1000", " ", "\n", "\t", "A", "bars", "ba", "x", "-1",
        "\u00e9", "bar 2;", "and 1 at 0 ", "wear 3;", "nested 2;"};

    private static String spoiled(Random r, String text) {
        StringBuilder s = new StringBuilder(text);
        int times = r.nextInt(4);
        for (int i = 0; i < times; i++) {
            int at = r.nextInt(s.length() + 1);
            int end = Math.min(s.length(), at + r.nextInt(4));
            switch (r.nextInt(4)) {
                case 0 -> s.insert(at, PIECES[r.nextInt(PIECES.length)]);
                case 1 -> s.delete(at, end);
                case 2 -> s.replace(at, end, PIECES[r.nextInt(PIECES.length)]);
                default -> s.setLength(at);
            }
        }
        if (s.length() > 900) {
            s.setLength(900);
        }
        return s.toString();
    }

    // ---- calls

    private static int near(Random r, int below) {
        return r.nextInt(12) == 0 ? r.nextInt(4) * (below + 1) - 1 : r.nextInt(Math.max(1, below));
    }

    private int bars() {
        return y.count(1);
    }

    private int stands() {
        return y.count(5);
    }

    private void call(Random r, int which, int most) {
        int b = near(r, bars());
        int s = near(r, stands());
        int t = near(r, 4);
        int what = near(r, 4);
        int k = r.nextInt(3) == 0 ? -1 : r.nextInt(12) - 2;
        boolean up = r.nextBoolean();
        if (which < 8) {
            same("step(" + b + ", " + up + ")", () -> x.step(b, up), () -> y.step(b, up));
            same("stand()", x::stand, y::stand);
        } else if (which < 16) {
            callBox(r, which, b, s, up);
        } else if (which < 27) {
            callVerses(r, which, b, s, what, k);
        } else if (which < 32) {
            callKnown(r, which, b, t, what, k, most);
        } else {
            callTrays(r, which, t, what);
        }
    }

    private void callBox(Random r, int which, int b, int s, boolean up) {
        switch (which) {
            case 8 -> {
                int what = near(r, 6);
                same("bar(" + b + ", " + what + ")", () -> x.bar(b, what), () -> y.bar(b, what));
            }
            case 9 -> {
                int rule = near(r, y.count(2));
                int what = near(r, 5);
                same("rule(" + rule + ", " + what + ")", () -> x.rule(rule, what), () -> y.rule(rule, what));
            }
            case 10 -> same("placeIn(" + s + ", " + b + ")", () -> x.placeIn(s, b), () -> y.placeIn(s, b));
            case 11 -> same("isOpen", () -> x.isOpen() ? 1 : 0, () -> y.isOpen() ? 1 : 0);
            case 12 -> same("may(" + b + ", " + up + ")", () -> x.may(b, up), () -> y.may(b, up));
            case 13, 14 -> same("stops(" + b + ", " + up + ")", () -> x.stops(b, up), () -> y.stops(b, up));
            default -> {
                int seed = r.nextInt();
                int times = near(r, 60);
                same("thief(" + seed + ", " + times + ")", () -> x.thief(seed, times), () -> y.thief(seed, times));
            }
        }
    }

    private void callVerses(Random r, int which, int b, int s, int what, int k) {
        switch (which) {
            case 16 -> {
                same("reached()", x::reached, y::reached);
                same("canBe(" + s + ")", () -> x.canBe(s) ? 1 : 0, () -> y.canBe(s) ? 1 : 0);
            }
            case 17 -> {
                int from = near(r, stands());
                same("shortest(" + from + ", " + s + ", " + k + ")", () -> x.shortest(from, s, k), () -> y.shortest(from, s, k));
            }
            case 18 -> {
                same("opening(" + k + ")", () -> x.opening(k), () -> y.opening(k));
                same("ways()", x::ways, () -> y.ways());
            }
            case 19 -> same("farthest(" + what + ")", () -> x.farthest(what), () -> y.farthest(what));
            case 20 -> {
                int n = r.nextInt(10) == 0 ? 998 + r.nextInt(4) : near(r, 12);
                same("within(" + n + ")", () -> x.within(n), () -> y.within(n));
            }
            case 21 -> same("fromStart(" + s + ")", () -> x.fromStart(s) ? 1 : 0, () -> y.fromStart(s) ? 1 : 0);
            case 22 -> {
                same("dead(" + what + ")", () -> x.dead(what), () -> y.dead(what));
                same("oneWays()", x::oneWays, y::oneWays);
            }
            case 23 -> same("fewestOf(" + b + ")", () -> x.fewestOf(b), () -> y.fewestOf(b));
            case 24 -> {
                int m = r.nextInt(3) == 0 ? 0 : near(r, 20);
                same("musts(" + m + ")", () -> x.musts(m), () -> y.musts(m));
            }
            case 25 -> {
                int n = near(r, 18);
                int bits = r.nextInt(8) == 0 ? r.nextInt() : n > 0 && n < 31 ? r.nextInt(1 << n) : 0;
                same("halves(" + n + ", " + bits + ")", () -> x.halves(n, bits), () -> y.halves(n, bits));
                same("halvesFirst(" + n + ", " + bits + ")", () -> x.halvesFirst(n, bits), () -> y.halvesFirst(n, bits));
            }
            default -> {
                same("ifWorn(" + b + ")", () -> x.ifWorn(b), () -> y.ifWorn(b));
                same("weakest()", x::weakest, y::weakest);
            }
        }
    }

    private void callKnown(Random r, int which, int b, int t, int what, int k, int most) {
        switch (which) {
            case 27 -> {
                int m = r.nextInt(3) == 0 ? 999 : near(r, 12);
                int asked = near(r, 7);
                if (most < 200 || r.nextInt(5) == 0) {
                    same("hardest(" + m + ", " + asked + ")", () -> x.hardest(m, asked), () -> y.hardest(m, asked));
                }
            }
            case 28 -> same("known(" + t + ")", () -> x.known(t), () -> y.known(t));
            case 29 -> {
                int n = near(r, 3);
                same("keeps(" + n + ", " + what + ")", () -> x.keeps(n, what), () -> y.keeps(n, what));
            }
            case 30 -> {
                int n = near(r, 21);
                boolean up = r.nextBoolean();
                same("rows(" + n + ", " + up + ")", () -> x.rows(n, up), () -> y.rows(n, up));
            }
            default -> same("keys()", x::keys, y::keys);
        }
    }

    private void callTrays(Random r, int which, int t, int what) {
        switch (which) {
            case 32 -> {
                int sort = near(r, 4);
                int many = near(r, r.nextBoolean() ? 4 : 41);
                same("tray(" + t + ", " + sort + ", " + many + ")", () -> {
                    x.tray(t, sort, many);
                    return 0;
                }, () -> {
                    y.tray(t, sort, many);
                    return 0;
                });
            }
            case 33 -> {
                int place = near(r, 6);
                long v = r.nextBoolean() ? near(r, 2 * bars()) : r.nextLong();
                same("write(" + t + ", " + place + ", " + v + ")", () -> x.write(t, place, v), () -> y.write(t, place, v));
            }
            case 34 -> {
                same("pour(" + t + ")", () -> x.pour(t), () -> y.pour(t));
                veil(r, t);
                same("known(" + t + ")", () -> x.known(t), () -> y.known(t));
            }
            case 35 -> same("image(" + t + ")", () -> {
                x.image(t);
                return 0;
            }, () -> {
                y.image(t);
                return 0;
            });
            case 36 -> {
                same("restore(" + t + ")", () -> {
                    x.restore(t);
                    return 0;
                }, () -> {
                    y.restore(t);
                    return 0;
                });
                same("stand()", x::stand, y::stand);
            }
            case 37 -> {
                same("judge(" + t + ", " + what + ")", () -> x.judge(t, what), () -> y.judge(t, what));
                if (r.nextInt(3) == 0) {
                    same("perform(" + t + ")", () -> x.perform(t), () -> y.perform(t));
                }
            }
            default -> tellSteps(r, t);
        }
    }

    /** Makes some lines of a tray unknown. */
    private void veil(Random r, int t) {
        int times = r.nextInt(5);
        for (int i = 0; i < times; i++) {
            int place = r.nextInt(8);
            same("write(" + t + ", " + place + ", -1)", () -> x.write(t, place, -1), () -> y.write(t, place, -1));
        }
    }

    /** Tells in a tray, by a fact that is drawn, when a step went, then asks what fits. */
    private void tellSteps(Random r, int t) {
        int many = r.nextInt(4);
        same("tray(" + t + ", 2, " + many + ")", () -> {
            x.tray(t, 2, many);
            return 0;
        }, () -> {
            y.tray(t, 2, many);
            return 0;
        });
        int bar = r.nextInt(Math.max(1, bars()));
        int fact = r.nextInt(4);
        for (int i = 0; i < many && bars() > 0; i++) {
            int s = r.nextInt(stands());
            int place = i;
            long v = r.nextInt(9) == 0 ? near(r, 2 * stands()) : 2 * s + (y.placeIn(s, bar) == fact ? 1 : 0);
            same("write(" + t + ", " + place + ", " + v + ")", () -> x.write(t, place, v), () -> y.write(t, place, v));
        }
        int step = near(r, 2 * bars());
        for (int i = -2; i < 5; i++) {
            int k = i;
            same("fits(" + step + ", " + t + ", " + k + ")", () -> x.fits(step, t, k), () -> y.fits(step, t, k));
        }
        for (int i = -1; i < 3; i++) {
            int w = i;
            same("tries(" + step + ", " + t + ", " + w + ")", () -> x.tries(step, t, w), () -> y.tries(step, t, w));
        }
    }
}
