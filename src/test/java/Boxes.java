/** Puts texts on the tape of a NineBars. */
final class Boxes {
    private Boxes() {
    }

    /** Feeds a text, filled up with blanks, and tells it: what box() answers. */
    static int tell(NineBars x, String text) {
        feed(x, text);
        return x.box(text.length());
    }

    /** The same for the Model. */
    static int tell(Model y, String text) {
        for (int i = 0; i < text.length(); i += 20) {
            y.feed(word(text, i), word(text, i + 4), word(text, i + 8), word(text, i + 12), word(text, i + 16));
        }
        return y.box(text.length());
    }

    static NineBars told(String text) {
        NineBars x = new NineBars();
        int lines = tell(x, text);
        if (lines < 0) {
            throw new IllegalStateException("not a box: " + text + ": " + lines + " at " + x.fault(1));
        }
        return x;
    }

    static void feed(NineBars x, String text) {
        for (int i = 0; i < text.length(); i += 20) {
            x.feed(word(text, i), word(text, i + 4), word(text, i + 8), word(text, i + 12), word(text, i + 16));
        }
    }

    private static int word(String text, int from) {
        int word = 0;
        for (int i = from; i < from + 4; i++) {
            word = word << 8 | (i < text.length() ? text.charAt(i) & 255 : 32);
        }
        return word;
    }

    /**
     * Three bars of 4 places whose 64 stands lie on one way, along which every stand has a single step that goes, onward:
     * bar 0 goes up or down as the places of bars 1 and 2 are even or odd together, bar 1 as that of bar 2 is.
     */
    static String oneWay(int from, int open) {
        StringBuilder s = new StringBuilder();
        for (int b = 0; b < 3; b++) {
            s.append("bar4at").append(onWay(from, b)).append("open").append(onWay(open, b)).append(';');
        }
        String even = "%d not 1 and %d not 3";
        String odd = "%d not 0 and %d not 2";
        for (int p = 0; p < 3; p++) {
            rule(s, 0, p, p + 1, even.replace("%d", "1") + " and " + even.replace("%d", "2"));
            rule(s, 0, p, p + 1, odd.replace("%d", "1") + " and " + odd.replace("%d", "2"));
            rule(s, 0, p + 1, p, even.replace("%d", "1") + " and " + odd.replace("%d", "2"));
            rule(s, 0, p + 1, p, odd.replace("%d", "1") + " and " + even.replace("%d", "2"));
            rule(s, 1, p, p + 1, "0 at " + (p == 1 ? 0 : 3) + " and " + even.replace("%d", "2"));
            rule(s, 1, p + 1, p, "0 at " + (p == 1 ? 0 : 3) + " and " + odd.replace("%d", "2"));
            rule(s, 2, p, p + 1, "0 at 0 and 1 at " + (p == 1 ? 0 : 3));
            rule(s, 2, p + 1, p, "0 at 0 and 0 at 1");
        }
        return s.toString();
    }

    private static void rule(StringBuilder s, int b, int from, int to, String facts) {
        s.append("rule").append(b).append(' ').append(from).append("to").append(to).append("if")
                .append(facts.replace(" ", "")).append(';');
    }

    /** The place of a bar at the p-th stand of that way. */
    static int onWay(int p, int b) {
        int two = p / 16;
        int one = two % 2 == 0 ? p / 4 % 4 : 3 - p / 4 % 4;
        int nought = (one + two) % 2 == 0 ? p % 4 : 3 - p % 4;
        return b == 0 ? nought : b == 1 ? one : two;
    }

    static int standOnWay(int p) {
        return onWay(p, 0) + 4 * onWay(p, 1) + 16 * onWay(p, 2);
    }

    static void lay(NineBars x, int tray, int sort, long... numbers) {
        x.tray(tray, sort, numbers.length);
        for (int i = 0; i < numbers.length; i++) {
            x.write(tray, i, numbers[i]);
        }
    }
}
