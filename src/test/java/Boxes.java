/** Puts texts on the tape of a NineBars. */
final class Boxes {
    private Boxes() {
    }

    /** Feeds a text, filled up with blanks, and tells it: what box() answers. */
    static int tell(NineBars x, String text) {
        feed(x, text);
        return x.box(text.length());
    }

    static NineBars told(String text) {
        NineBars x = new NineBars();
        int lines = tell(x, text);
        if (lines < 0) {
            throw new IllegalStateException("not a box: " + text + ": " + lines + " at " + x.fault(1));
        }
        return x;
    }

    static void feed(NineBars x, String text) {
        for (int i = 0; i < text.length(); i += 20) {
            x.feed(word(text, i), word(text, i + 4), word(text, i + 8), word(text, i + 12), word(text, i + 16));
        }
    }

    private static int word(String text, int from) {
        int word = 0;
        for (int i = from; i < from + 4; i++) {
            word = word << 8 | (i < text.length() ? text.charAt(i) & 255 : 32);
        }
        return word;
    }

    static void lay(NineBars x, int tray, int sort, long... numbers) {
        x.tray(tray, sort, numbers.length);
        for (int i = 0; i < numbers.length; i++) {
            x.write(tray, i, numbers[i]);
        }
    }
}
