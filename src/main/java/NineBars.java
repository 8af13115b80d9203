import java.util.NoSuchElementException;

/** Nine bars that bar each other: a strong box told as a text, and what can be asked of it. */
public final class NineBars {
    public static final int NONE = -1;
    public static final int SPENT = -1000;

    private static final int MOST_BYTES = 900;
    private static final int MOST_BARS = 9;
    private static final int LEAST_PLACES = 2;
    private static final int MOST_PLACES = 4;
    private static final int MOST_RULES = 24;
    private static final int MOST_FACTS = 4;
    private static final int MOST_WEAR = 99;
    private static final int MOST_STANDS = 20000;
    private static final int MOST_NOTCHED = 600;
    private static final int MOST_NUMBERS = 40;
    private static final int MOST_TURNS = 60;
    private static final int MOST_TIMES = 60;
    private static final int MOST_ROW = 20;
    private static final int MOST_ASKED = 999;
    private static final int MOST_HALVES = 30;
    private static final int TRAYS = 4;
    private static final int IMAGES = 3;
    private static final int SORTS = 4;
    private static final int ALL_STEPS = (1 << (2 * MOST_BARS)) - 1;

    private final byte[] tape;
    private int fed;
    private int latestFault;
    private int latestPlace;
    private int editions;
    private final Reader reader;
    private final Box told;
    private final Box spare;
    private final Box[] images;
    private final Tray[] trays;
    private final Graph graph;
    private final Paths onward;
    private final Paths toward;
    private final Paths aside;
    private final Counter counter;
    private final Game game;
    private final Notches notches;
    private final Kept kept;
    private final Fits fitting;

    public NineBars() {
        tape = new byte[MOST_BYTES];
        latestPlace = NONE;
        reader = new Reader();
        told = new Box();
        spare = new Box();
        images = new Box[IMAGES];
        trays = new Tray[TRAYS];
        for (int i = 0; i < TRAYS; i++) {
            trays[i] = new Tray();
        }
        graph = new Graph();
        onward = new Paths(false);
        toward = new Paths(true);
        aside = new Paths(false);
        counter = new Counter();
        game = new Game();
        notches = new Notches();
        kept = new Kept();
        fitting = new Fits();
    }

    // ---- the box

    public int feed(int a, int b, int c, int d, int e) {
        if (fed + 20 > MOST_BYTES) {
            return NONE;
        }
        putBytes(a);
        putBytes(b);
        putBytes(c);
        putBytes(d);
        putBytes(e);
        return fed;
    }

    public int box(int n) throws IllegalArgumentException {
        if (n < 0 || n > fed) {
            throw new IllegalArgumentException("not so many bytes are on the tape");
        }
        reader.readText(tape, n, spare);
        fed = 0;
        latestFault = reader.fault;
        latestPlace = reader.faultAt;
        if (latestFault != 0) {
            return -10 - latestFault;
        }
        editions++;
        spare.edition = editions;
        told.become(spare);
        return told.lines;
    }

    public int fault(int what) {
        return what == 0 ? latestFault : what == 1 ? latestPlace : NONE;
    }

    public int bar(int b, int what) throws NoSuchElementException, IllegalArgumentException {
        needBar(b);
        switch (what) {
            case 0: return told.places[b];
            case 1: return told.at[b];
            case 2: return told.opens[b];
            case 3: return told.made[b];
            case 4: return told.isWorn(b) ? 1 : 0;
            case 5: return told.rulesOf(b);
            default: throw new IllegalArgumentException("what is 0 to 5");
        }
    }

    public int rule(int r, int what) throws NoSuchElementException, IllegalArgumentException {
        if (r < 0 || r >= told.rules) {
            throw new NoSuchElementException("no such rule");
        }
        switch (what) {
            case 0: return told.ruleBars[r];
            case 1: return told.ruleFroms[r];
            case 2: return told.ruleTos[r];
            case 3: return told.ruleFacts[r];
            case 4: return told.holdsIn(r, told.at) ? 1 : 0;
            default: throw new IllegalArgumentException("what is 0 to 4");
        }
    }

    public int stand() {
        return isSpent() ? SPENT : told.standOf(told.at);
    }

    public int placeIn(int stand, int b) throws NoSuchElementException, IllegalStateException {
        needBar(b);
        needStand(stand);
        needFew();
        return told.placeOf(stand, b);
    }

    public boolean isOpen() {
        return told.isOpened();
    }

    // ---- steps

    public int may(int b, boolean up) {
        return told.whyNot(b, up);
    }

    public int step(int b, boolean up) {
        int why = told.makeStep(b, up);
        return why == 0 && b >= 0 && b < told.bars ? told.at[b] : -why;
    }

    public int stops(int b, boolean up) {
        return told.whyNot(b, up) == 0 ? NONE : told.barThatStops(b, up);
    }

    public int judge(int tray, int what) throws NoSuchElementException, IllegalStateException, IllegalArgumentException {
        Tray verse = needTray(tray);
        if (what < 0 || what > 3) {
            throw new IllegalArgumentException("what is 0 to 3");
        }
        spare.become(told);
        int opened = spare.isOpened() ? -2 : NONE;
        int why = 0;
        int bad = NONE;
        for (int i = 0; i < verse.many && why == 0; i++) {
            why = spare.makeNumber(verse.numbers[i]);
            if (why != 0) {
                bad = i;
            } else if (opened == NONE && spare.isOpened()) {
                opened = i;
            }
        }
        switch (what) {
            case 0: return bad;
            case 1: return why;
            case 2: return spare.isOpened() ? 1 : 0;
            default: return opened;
        }
    }

    public int perform(int tray) throws NoSuchElementException, IllegalStateException {
        Tray verse = needTray(tray);
        for (int i = 0; i < verse.many; i++) {
            if (told.makeNumber(verse.numbers[i]) != 0) {
                return i;
            }
        }
        return verse.many;
    }

    public int thief(int seed, int times) throws IllegalArgumentException, IllegalStateException {
        if (times < 1 || times > MOST_TIMES) {
            throw new IllegalArgumentException("times is 1 to 60");
        }
        int bars = told.bars;
        if (bars <= 0) {
            throw new IllegalStateException("no bars");
        }
        int x = seed;
        int made = 0;
        for (int i = 0; i < times && !told.isOpened(); i++) {
            x = nextDraw(x);
            int b = (x >>> 16) % bars;
            x = nextDraw(x);
            if (told.makeStep(b, (x >>> 16 & 1) == 1) == 0) {
                made++;
            }
        }
        return made;
    }

    // ---- verses

    public int reached() {
        return isSpent() ? SPENT : fromNow().many;
    }

    public boolean canBe(int stand) throws NoSuchElementException, IllegalStateException {
        needStand(stand);
        needGraph();
        return fromNow().farOf(stand) != NONE;
    }

    public int shortest(int from, int to, int k) throws NoSuchElementException, IllegalStateException {
        needStand(from);
        needStand(to);
        needGraph();
        toward.seek(graph, to);
        return toward.lineOf(graph, from, k);
    }

    public int opening(int k) throws IllegalStateException {
        needGraph();
        return toOpen().lineOf(graph, told.standOf(told.at), k);
    }

    public long ways() throws IllegalStateException {
        needGraph();
        return counter.waysToOpen(graph, fromNow());
    }

    public int farthest(int what) throws IllegalStateException, IllegalArgumentException {
        needGraph();
        if (what != 0 && what != 1) {
            throw new IllegalArgumentException("what is 0 or 1");
        }
        Paths paths = fromNow();
        int stand = paths.farthestStand();
        return what == 0 ? paths.farOf(stand) : stand;
    }

    public int within(int n) throws IllegalStateException, IllegalArgumentException {
        needGraph();
        if (n < 0 || n > MOST_ASKED) {
            throw new IllegalArgumentException("n is 0 to 999");
        }
        return fromNow().manyWithin(n);
    }

    public boolean fromStart(int stand) throws NoSuchElementException, IllegalStateException {
        needStand(stand);
        needGraph();
        aside.seek(graph, told.standOf(told.starts));
        return aside.farOf(stand) != NONE;
    }

    public int dead(int what) throws IllegalStateException, IllegalArgumentException {
        needGraph();
        if (what != 0 && what != 1) {
            throw new IllegalArgumentException("what is 0 or 1");
        }
        Paths paths = fromNow();
        Paths open = toOpen();
        int many = 0;
        int least = NONE;
        for (int i = 0; i < paths.many; i++) {
            int s = paths.order[i];
            if (open.farOf(s) == NONE) {
                many++;
                least = least == NONE || s < least ? s : least;
            }
        }
        return what == 0 ? many : least;
    }

    public int oneWays() throws IllegalStateException {
        needGraph();
        Paths paths = fromNow();
        int many = 0;
        for (int i = 0; i < paths.many; i++) {
            many += graph.oneWaysFrom(paths.order[i]);
        }
        return many;
    }

    public int fewestOf(int b) throws NoSuchElementException, IllegalStateException {
        needBar(b);
        needGraph();
        return aside.fewestOwn(graph, told.standOf(told.at), b);
    }

    public int musts(int what) throws IllegalStateException, IllegalArgumentException {
        needGraph();
        if (what != 0 && what < 10) {
            throw new IllegalArgumentException("what is 0, or 10 and more");
        }
        return mustStands(fromNow(), toOpen(), what == 0 ? NONE : what - 10);
    }

    public int halves(int n, int bits) throws IllegalArgumentException {
        needHalves(n, bits);
        return stepsToNought(bits);
    }

    public int halvesFirst(int n, int bits) throws IllegalArgumentException {
        needHalves(n, bits);
        // From the k-th stand of the only way to the one ahead, the bar that moves is the lowest 1 of k.
        return bits == 0 ? NONE : Integer.numberOfTrailingZeros(stepsToNought(bits));
    }

    // ---- wear, notches

    public int ifWorn(int b) throws NoSuchElementException, IllegalStateException {
        needBar(b);
        needGraph();
        return openingIfWorn(b);
    }

    public int weakest() throws IllegalStateException {
        needGraph();
        int weak = NONE;
        int least = NONE;
        for (int b = 0; b < told.bars; b++) {
            int steps = openingIfWorn(b);
            if (steps != NONE && (weak == NONE || steps < least)) {
                weak = b;
                least = steps;
            }
        }
        return weak;
    }

    public int hardest(int m, int what) throws IllegalArgumentException, IllegalStateException {
        if (m < 1 || m > MOST_ASKED || what < 0 || what > 6) {
            throw new IllegalArgumentException("m is 1 to 999, what is 0 to 6");
        }
        if (told.standCount() > MOST_NOTCHED) {
            throw new IllegalStateException("more than 600 stands");
        }
        graph.prepare(told);
        notches.seek(told, graph, aside, m);
        return notches.best[what];
    }

    // ---- what is known

    public long known(int tray) throws NoSuchElementException, IllegalStateException, IllegalArgumentException {
        Tray verse = needTray(tray);
        needGraph();
        if (verse.many < 1) {
            throw new IllegalArgumentException("not 1 to 40 numbers");
        }
        return counter.versesAsTold(graph, told.standOf(told.at), verse);
    }

    public long keeps(int n, int what) throws IllegalArgumentException, IllegalStateException {
        if (n < 1 || n > 2 || what < 0 || what > 2) {
            throw new IllegalArgumentException("n is 1 or 2, what is 0 to 2");
        }
        needGraph();
        int from = told.standOf(told.at);
        int length = toOpen().farOf(from);
        if (length < n || length > MOST_NUMBERS || what > n) {
            return NONE;
        }
        kept.takeVerse(graph, toward, from);
        kept.seek(graph, n);
        return what == 0 ? kept.most : what == 1 ? kept.first : kept.second;
    }

    public int fits(int step, int tray, int k) throws NoSuchElementException, IllegalStateException, IllegalArgumentException {
        findFits(step, tray);
        if (k == NONE) {
            return fitting.many;
        }
        return k >= 0 && k < fitting.many ? fitting.codes[k] : NONE;
    }

    public int tries(int step, int tray, int what) throws NoSuchElementException, IllegalStateException, IllegalArgumentException {
        findFits(step, tray);
        if (what != 0 && what != 1) {
            throw new IllegalArgumentException("what is 0 or 1");
        }
        if (fitting.many < 2) {
            return NONE;
        }
        fitting.seekTry(told);
        return what == 0 ? fitting.tryStand : fitting.tryLeft;
    }

    // ---- at random, by turns

    public long rows(int n, boolean opening) throws IllegalArgumentException, IllegalStateException {
        if (n < 0 || n > MOST_ROW) {
            throw new IllegalArgumentException("n is 0 to 20");
        }
        needGraph();
        int now = told.standOf(told.at);
        long all = counter.rowsFrom(graph, now, n, NONE);
        return opening ? all - counter.rowsFrom(graph, now, n, graph.openStand) : all;
    }

    public int keys() throws IllegalStateException {
        needGraph();
        return game.turnsToOpen(graph, told.standOf(told.at));
    }

    // ---- trays, images

    public void tray(int tray, int sort, int many) throws NoSuchElementException, IllegalArgumentException {
        needTrayNumber(tray);
        if (sort < 0 || sort >= SORTS || many < 0 || many > MOST_NUMBERS) {
            throw new IllegalArgumentException("no such sort, or not so many");
        }
        trays[tray].layOut(sort, many);
    }

    public long write(int tray, int place, long v) throws NoSuchElementException, IllegalStateException, IndexOutOfBoundsException {
        Tray row = needTray(tray);
        if (place < 0 || place >= row.many) {
            throw new IndexOutOfBoundsException("no such place");
        }
        return row.put(place, v);
    }

    public int pour(int tray) throws NoSuchElementException, IllegalStateException {
        Tray row = needTray(tray);
        needGraph();
        Paths open = toOpen();
        int s = told.standOf(told.at);
        int many = Math.min(row.many, Math.max(0, open.farOf(s)));
        for (int i = 0; i < many; i++) {
            int v = open.lineFrom(graph, s);
            row.put(i, v);
            s = graph.behind(s, v);
        }
        return many;
    }

    public void image(int i) throws NoSuchElementException {
        needImageNumber(i);
        if (images[i] == null) {
            images[i] = new Box();
        }
        images[i].become(told);
    }

    public void restore(int i) throws NoSuchElementException, IllegalStateException {
        needImageNumber(i);
        if (images[i] == null) {
            throw new IllegalStateException("no such image was made");
        }
        told.become(images[i]);
    }

    public int count(int what) {
        switch (what) {
            case 0: return told.lines;
            case 1: return told.bars;
            case 2: return told.rules;
            case 3: return told.nested;
            case 4: return told.wear;
            case 5: return told.standCount();
            case 6: return told.stepsMade();
            case 7: return fed;
            default: return NONE;
        }
    }

    // ---- what the calls share

    private void putBytes(int four) {
        for (int shift = 24; shift >= 0 && fed < MOST_BYTES; shift -= 8) {
            tape[fed] = (byte) (four >> shift);
            fed++;
        }
    }

    private static int nextDraw(int x) {
        return 1103515245 * x + 12345;
    }

    private boolean isSpent() {
        return told.standCount() > MOST_STANDS;
    }

    private void needBar(int b) {
        if (b < 0 || b >= told.bars) {
            throw new NoSuchElementException("no such bar");
        }
    }

    private void needStand(int stand) {
        if (stand < 0 || stand >= told.standCount()) {
            throw new NoSuchElementException("no such stand");
        }
    }

    private void needFew() {
        if (isSpent()) {
            throw new IllegalStateException("more than 20,000 stands");
        }
    }

    /** Refuses a box that is SPENT, else makes the graph fit it. */
    private void needGraph() {
        needFew();
        graph.prepare(told);
    }

    private void needTrayNumber(int tray) {
        if (tray < 0 || tray >= TRAYS) {
            throw new NoSuchElementException("no such tray");
        }
    }

    private Tray needTray(int tray) {
        needTrayNumber(tray);
        if (trays[tray].many == NONE) {
            throw new IllegalStateException("the tray is missing");
        }
        return trays[tray];
    }

    private void needImageNumber(int i) {
        if (i < 0 || i >= IMAGES) {
            throw new NoSuchElementException("no such image");
        }
    }

    private static void needHalves(int n, int bits) {
        if (n < 1 || n > MOST_HALVES || bits < 0 || bits >> n != 0) {
            throw new IllegalArgumentException("n is 1 to 30, bits are of n");
        }
    }

    private Paths fromNow() {
        graph.prepare(told);
        onward.seek(graph, told.standOf(told.at));
        return onward;
    }

    private Paths toOpen() {
        toward.seek(graph, graph.openStand);
        return toward;
    }

    private int openingIfWorn(int b) {
        graph.wearMore(3 << (2 * b));
        aside.spread(graph, graph.tried, told.standOf(told.at), graph.openStand);
        return aside.farOf(graph.openStand);
    }

    /** Nested bars have one way alone, through all stands: a code by halves, whose place a row of shifts tells. */
    private static int stepsToNought(int bits) {
        int place = bits;
        for (int shift = 16; shift > 0; shift >>= 1) {
            place ^= place >>> shift;
        }
        return place;
    }

    /** Stands alone at their distance on the shortest ways: the k-th, or how many for NONE. */
    private int mustStands(Paths from, Paths open, int k) {
        int length = from.farOf(graph.openStand);
        int found = 0;
        int i = 0;
        for (int far = 0; far <= length; far++) {
            int many = 0;
            int only = NONE;
            for (; i < from.many && from.farOf(from.order[i]) == far; i++) {
                if (open.farOf(from.order[i]) == length - far) {
                    many++;
                    only = from.order[i];
                }
            }
            if (many == 1) {
                if (found == k) {
                    return only;
                }
                found++;
            }
        }
        return k == NONE ? found : NONE;
    }

    private void findFits(int step, int tray) {
        needBar(step >> 1);
        Tray row = needTray(tray);
        needFew();
        if (!row.allBelow(2L * told.standCount())) {
            throw new IllegalArgumentException("a number that tells of no stand");
        }
        fitting.find(told, row, step >> 1);
    }

    /** A row with room for so many: the old one, or one twice as long, so that few are made in all. */
    private static int[] grown(int[] row, int need, int most) {
        if (row.length >= need || need <= 0) {
            return row;
        }
        return new int[Math.max(need, Math.min(2 * row.length, most))];
    }

    private static long[] grownLong(long[] row, int need, int most) {
        if (row.length >= need || need <= 0) {
            return row;
        }
        return new long[Math.max(need, Math.min(2 * row.length, most))];
    }

    /** The BOX as told, and how its bars stand. */
    private static final class Box {
        private int edition;
        private int lines;
        private int bars;
        private int rules;
        private int nested;
        private int wear;
        private final int[] places = new int[MOST_BARS];
        private final int[] starts = new int[MOST_BARS];
        private final int[] opens = new int[MOST_BARS];
        private final int[] at = new int[MOST_BARS];
        private final int[] made = new int[MOST_BARS];
        private final int[] ruleBars = new int[MOST_RULES];
        private final int[] ruleFroms = new int[MOST_RULES];
        private final int[] ruleTos = new int[MOST_RULES];
        private final int[] ruleFacts = new int[MOST_RULES];
        private final int[] factBars = new int[MOST_RULES * MOST_FACTS];
        private final int[] factPlaces = new int[MOST_RULES * MOST_FACTS];
        private final int[] factNots = new int[MOST_RULES * MOST_FACTS];

        void becomeEmpty() {
            lines = 0;
            bars = 0;
            rules = 0;
            nested = 0;
            wear = 0;
        }

        void become(Box other) {
            edition = other.edition;
            lines = other.lines;
            bars = other.bars;
            rules = other.rules;
            nested = other.nested;
            wear = other.wear;
            System.arraycopy(other.places, 0, places, 0, MOST_BARS);
            System.arraycopy(other.starts, 0, starts, 0, MOST_BARS);
            System.arraycopy(other.opens, 0, opens, 0, MOST_BARS);
            System.arraycopy(other.at, 0, at, 0, MOST_BARS);
            System.arraycopy(other.made, 0, made, 0, MOST_BARS);
            System.arraycopy(other.ruleBars, 0, ruleBars, 0, MOST_RULES);
            System.arraycopy(other.ruleFroms, 0, ruleFroms, 0, MOST_RULES);
            System.arraycopy(other.ruleTos, 0, ruleTos, 0, MOST_RULES);
            System.arraycopy(other.ruleFacts, 0, ruleFacts, 0, MOST_RULES);
            System.arraycopy(other.factBars, 0, factBars, 0, MOST_RULES * MOST_FACTS);
            System.arraycopy(other.factPlaces, 0, factPlaces, 0, MOST_RULES * MOST_FACTS);
            System.arraycopy(other.factNots, 0, factNots, 0, MOST_RULES * MOST_FACTS);
        }

        void addBar(int many, int start, int open) {
            if (bars >= MOST_BARS) {
                return;
            }
            places[bars] = many;
            starts[bars] = start;
            opens[bars] = open;
            at[bars] = start;
            made[bars] = 0;
            bars++;
        }

        void addRule(int b, int from, int to) {
            if (rules >= MOST_RULES) {
                return;
            }
            ruleBars[rules] = b;
            ruleFroms[rules] = from;
            ruleTos[rules] = to;
            ruleFacts[rules] = 0;
            rules++;
        }

        /** A fact more of the latest rule. */
        void addFact(int b, int not, int place) {
            int r = rules - 1;
            if (r < 0 || ruleFacts[r] >= MOST_FACTS) {
                return;
            }
            int f = r * MOST_FACTS + ruleFacts[r];
            factBars[f] = b;
            factNots[f] = not;
            factPlaces[f] = place;
            ruleFacts[r]++;
        }

        int placesOf(int b) {
            return b >= 0 && b < bars ? places[b] : 0;
        }

        int rulesOf(int b) {
            int many = 0;
            for (int r = 0; r < rules; r++) {
                many += ruleBars[r] == b ? 1 : 0;
            }
            return many;
        }

        boolean hasRule(int b, int from, int to) {
            for (int r = 0; r < rules; r++) {
                if (ruleBars[r] == b && ruleFroms[r] == from && ruleTos[r] == to) {
                    return true;
                }
            }
            return false;
        }

        int stepsMade() {
            int many = 0;
            for (int b = 0; b < bars; b++) {
                many += made[b];
            }
            return many;
        }

        int standCount() {
            int many = 1;
            for (int b = 0; b < bars; b++) {
                many *= places[b];
            }
            return many;
        }

        int standOf(int[] row) {
            int stand = 0;
            for (int b = bars - 1; b >= 0; b--) {
                stand = stand * places[b] + row[b];
            }
            return stand;
        }

        int placeOf(int stand, int b) {
            int rest = stand;
            for (int c = 0; c < bars; c++) {
                int many = places[c];
                if (many <= 0) {
                    return 0;
                }
                if (c == b) {
                    return rest % many;
                }
                rest /= many;
            }
            return 0;
        }

        /** Makes a row of places that of the stand behind its own. */
        void advance(int[] row) {
            for (int b = 0; b < bars; b++) {
                if (row[b] < places[b] - 1) {
                    row[b]++;
                    return;
                }
                row[b] = 0;
            }
        }

        boolean isOpened() {
            for (int b = 0; b < bars; b++) {
                if (at[b] != opens[b]) {
                    return false;
                }
            }
            return true;
        }

        boolean isWorn(int b) {
            return b >= 0 && b < bars && wear > 0 && made[b] >= wear;
        }

        /** Both steps of every worn bar, as bits. */
        int wornBits() {
            int bits = 0;
            for (int b = 0; b < bars; b++) {
                bits |= isWorn(b) ? 3 << (2 * b) : 0;
            }
            return bits;
        }

        private static int digit(int[] row, int b) {
            return b >= 0 && b < row.length ? row[b] : NONE;
        }

        boolean holdsIn(int r, int[] row) {
            int first = r * MOST_FACTS;
            for (int f = first; f < first + ruleFacts[r]; f++) {
                boolean there = digit(row, factBars[f]) == factPlaces[f];
                if (there == (factNots[f] == 1)) {
                    return false;
                }
            }
            return true;
        }

        /** Steps, as bits, that have a place to go to and aren't held by nesting. */
        int ableIn(int[] row) {
            int lowest = 0;
            while (lowest < bars && row[lowest] == 0) {
                lowest++;
            }
            int free = lowest < bars && row[lowest] == 1 ? lowest + 1 : NONE;
            int bits = 0;
            for (int b = 0; b < bars; b++) {
                boolean held = b < nested && b != 0 && b != free;
                if (row[b] > 0 && !(held && row[b] == 1)) {
                    bits |= 1 << (2 * b);
                }
                if (row[b] < places[b] - 1 && !(held && row[b] == 0)) {
                    bits |= 2 << (2 * b);
                }
            }
            return bits;
        }

        /** Steps, as bits, that have rules of which none holds. */
        int shutIn(int[] row) {
            int ruled = 0;
            int holding = 0;
            for (int r = 0; r < rules; r++) {
                if (digit(row, ruleBars[r]) == ruleFroms[r]) {
                    int bit = (ruleTos[r] > ruleFroms[r] ? 2 : 1) << (2 * ruleBars[r]);
                    ruled |= bit;
                    holding |= holdsIn(r, row) ? bit : 0;
                }
            }
            return ruled & ~holding;
        }

        int whyNot(int b, boolean up) {
            if (b < 0 || b >= bars) {
                return 1;
            }
            int to = at[b] + (up ? 1 : -1);
            if (to < 0 || to >= places[b]) {
                return 2;
            }
            int bit = (up ? 2 : 1) << (2 * b);
            if ((ableIn(at) & bit) == 0) {
                return 3;
            }
            return (shutIn(at) & bit) != 0 && !isWorn(b) ? 4 : 0;
        }

        /** Makes a step, if it goes: why not, or 0. */
        int makeStep(int b, boolean up) {
            int why = whyNot(b, up);
            if (why == 0 && b >= 0 && b < bars) {
                at[b] += up ? 1 : -1;
                made[b]++;
            }
            return why;
        }

        int makeNumber(long v) {
            return v < 0 || v >= 2L * bars ? 1 : makeStep((int) (v >> 1), (v & 1) == 1);
        }

        int barThatStops(int b, boolean up) {
            for (int c = 0; c < bars; c++) {
                if (c != b && letsGoElsewhere(c, b, up)) {
                    return c;
                }
            }
            return NONE;
        }

        /** Whether a step would go, if bar c stood in some other place. */
        private boolean letsGoElsewhere(int c, int b, boolean up) {
            int place = at[c];
            boolean goes = false;
            for (int p = 0; p < places[c] && !goes; p++) {
                at[c] = p;
                goes = p != place && whyNot(b, up) == 0;
            }
            at[c] = place;
            return goes;
        }
    }

    /** Reads a text into a box, or finds its first fault. */
    private static final class Reader {
        private static final int END = 0;
        private static final int BAD = 1;
        private static final int WORD = 2;
        private static final int NUMBER = 3;
        private static final int SIGN = 4;

        private byte[] text = new byte[0];
        private int length;
        private int pos;
        private int start;
        private int kind;
        private int value;
        private int fault;
        private int faultAt = NONE;

        void readText(byte[] tape, int n, Box into) {
            text = tape;
            length = Math.min(n, tape.length);
            pos = 0;
            fault = 0;
            faultAt = NONE;
            into.becomeEmpty();
            readToken();
            for (int i = 0; i <= MOST_BYTES && fault == 0 && kind != END; i++) {
                readLine(into);
                readToken();
            }
        }

        /** Keeps the first fault: behind it nothing is read. */
        private void blame(int what) {
            if (fault == 0) {
                fault = what;
                faultAt = start;
            }
        }

        private void readToken() {
            if (fault != 0) {
                return;
            }
            while (pos < length && (text[pos] == 10 || text[pos] == 32)) {
                pos++;
            }
            start = pos;
            value = 0;
            int first = pos < length ? text[pos] : 0;
            boolean word = first >= 'a' && first <= 'z';
            int least = word ? 'a' : '0';
            int most = word ? 'z' : '9';
            while (pos < length && text[pos] >= least && text[pos] <= most) {
                value = value * 10 + text[pos] - '0';
                pos++;
            }
            if (start >= length) {
                kind = END;
            } else if (word) {
                kind = WORD;
            } else if (pos > start && pos - start <= 3) {
                kind = NUMBER;
            } else if (first == ';') {
                kind = SIGN;
                pos++;
            } else {
                kind = BAD;
                fault = 1;
                faultAt = start;
            }
        }

        /** Whether the token at hand is this word. */
        private boolean spells(String word) {
            if (fault != 0 || kind != WORD || pos - start != word.length()) {
                return false;
            }
            for (int i = 0; i < word.length(); i++) {
                if (text[start + i] != word.charAt(i)) {
                    return false;
                }
            }
            return true;
        }

        private void readWord(String word) {
            readToken();
            if (!spells(word)) {
                blame(2);
            }
        }

        /** The next token as a number of these bounds, both in; 0 with a fault. */
        private int readNumber(int least, int most) {
            readToken();
            if (kind != NUMBER) {
                blame(2);
            } else if (value < least || value > most) {
                blame(3);
            }
            return fault == 0 ? value : 0;
        }

        /** A line, of which the first token is at hand, with its sign. */
        private void readLine(Box into) {
            if (spells("bar")) {
                readBar(into);
            } else if (spells("rule")) {
                readRule(into);
            } else if (spells("nested")) {
                into.nested = readNumber(2, into.bars);
                readToken();
            } else if (spells("wear")) {
                into.wear = readNumber(0, MOST_WEAR);
                readToken();
            } else {
                blame(2);
            }
            if (kind != SIGN) {
                blame(2);
            }
            into.lines++;
        }

        private void readBar(Box into) {
            if (into.bars == MOST_BARS) {
                blame(4);
                return;
            }
            int places = readNumber(LEAST_PLACES, MOST_PLACES);
            int at = 0;
            int open = places - 1;
            readToken();
            if (spells("at")) {
                at = readNumber(0, places - 1);
                readToken();
            }
            if (spells("open")) {
                open = readNumber(0, places - 1);
                readToken();
            }
            if (fault == 0) {
                into.addBar(places, at, open);
            }
        }

        private void readRule(Box into) {
            if (into.rules == MOST_RULES) {
                blame(4);
                return;
            }
            int b = readNumber(0, into.bars - 1);
            int from = readNumber(0, into.placesOf(b) - 1);
            readWord("to");
            int to = readNumber(0, into.placesOf(b) - 1);
            if (to != from - 1 && to != from + 1) {
                blame(3);
            }
            readWord("if");
            if (fault == 0) {
                into.addRule(b, from, to);
            }
            readFact(into, b);
            for (int facts = 1; facts <= MOST_FACTS && spells("and"); facts++) {
                if (facts == MOST_FACTS) {
                    blame(4);
                }
                readFact(into, b);
            }
        }

        /** A fact of another bar than b, and the token behind it. */
        private void readFact(Box into, int b) {
            int other = readNumber(0, into.bars - 1);
            if (other == b) {
                blame(3);
            }
            readToken();
            int not = spells("not") ? 1 : 0;
            if (not == 0 && !spells("at")) {
                blame(2);
            }
            int place = readNumber(0, into.placesOf(other) - 1);
            if (fault == 0) {
                into.addFact(other, not, place);
            }
            readToken();
        }
    }

    /** A row of numbers of a sort; MISSING, while many is NONE. */
    private static final class Tray {
        private final long[] numbers = new long[MOST_NUMBERS];
        private int sort;
        private int many = NONE;

        void layOut(int newSort, int newMany) {
            sort = newSort;
            many = newMany;
            for (int i = 0; i < MOST_NUMBERS; i++) {
                numbers[i] = 0;
            }
        }

        long put(int place, long v) {
            if (place < 0 || place >= MOST_NUMBERS) {
                return NONE;
            }
            numbers[place] = sort == 0 ? (byte) v : sort == 1 ? (short) v : sort == 2 ? (int) v : v;
            return numbers[place];
        }

        boolean allBelow(long bound) {
            for (int i = 0; i < many; i++) {
                if (numbers[i] < 0 || numbers[i] >= bound) {
                    return false;
                }
            }
            return true;
        }
    }

    /** Which steps go from which stands. */
    private static final class Graph {
        private int edition = NONE;
        private int wornBits = NONE;
        private int stands;
        private int steps;
        private int openStand;
        private final int[] shift = new int[2 * MOST_BARS];
        private final int[] row = new int[MOST_BARS];
        private int[] able = new int[0];
        private int[] shut = new int[0];
        private int[] goes = new int[0];
        private int[] tried = new int[0];

        /** Makes it that of a box with its bars worn as they are; what stands of it already stays. */
        void prepare(Box box) {
            if (edition != box.edition || stands == 0) {
                build(box);
                edition = box.edition;
                wornBits = NONE;
            }
            int worn = box.wornBits();
            if (wornBits != worn) {
                wornBits = worn;
                goes = grown(goes, stands, MOST_STANDS);
                fill(goes, worn);
            }
        }

        private void build(Box box) {
            stands = Math.min(box.standCount(), MOST_STANDS);
            steps = 2 * box.bars;
            openStand = box.standOf(box.opens);
            int weight = 1;
            for (int b = 0; b < box.bars; b++) {
                shift[2 * b] = -weight;
                shift[2 * b + 1] = weight;
                weight *= box.places[b];
                row[b] = 0;
            }
            able = grown(able, stands, MOST_STANDS);
            shut = grown(shut, stands, MOST_STANDS);
            for (int s = 0; s < stands; s++) {
                able[s] = box.ableIn(row);
                shut[s] = box.shutIn(row);
                box.advance(row);
            }
        }

        private void fill(int[] masks, int worn) {
            for (int s = 0; s < stands && s < masks.length; s++) {
                masks[s] = able[s] & (~shut[s] | worn);
            }
        }

        /** Tried is what goes with these steps of worn bars, too. */
        void wearMore(int bits) {
            tried = grown(tried, stands, MOST_STANDS);
            fill(tried, wornBits | bits);
        }

        /** Tried is what goes with one rule more: of a step (its bit), for stands in which its bar is at from. */
        void notchMore(Box box, int[] rule, boolean ruled) {
            tried = grown(tried, stands, MOST_STANDS);
            System.arraycopy(goes, 0, tried, 0, stands);
            int bit = (rule[3] > rule[2] ? 2 : 1) << (2 * rule[1]);
            if ((wornBits & bit) != 0) {
                return;
            }
            for (int s = 0; s < stands; s++) {
                if ((able[s] & bit) != 0 && digit(box, s, rule[1]) == rule[2]) {
                    boolean holds = (digit(box, s, rule[4]) == rule[6]) != (rule[5] == 1);
                    if (holds && ruled) {
                        tried[s] |= bit;
                    } else if (!holds && !ruled) {
                        tried[s] &= ~bit;
                    }
                }
            }
        }

        private int digit(Box box, int s, int b) {
            int weight = shift[2 * b + 1];
            int many = box.places[b];
            return weight > 0 && many > 0 ? s / weight % many : 0;
        }

        boolean goesFrom(int s, int v) {
            return v >= 0 && v < steps && (stepsFrom(s) >> v & 1) == 1;
        }

        int stepsFrom(int s) {
            return s >= 0 && s < stands ? goes[s] : 0;
        }

        /** The stand behind a step that goes. */
        int behind(int s, int v) {
            return v >= 0 && v < steps ? s + shift[v] : s;
        }

        /** Whether one step leads from a stand to another one. */
        boolean leads(int s, int to) {
            for (int v = 0; v < steps; v++) {
                if (s + shift[v] == to && goesFrom(s, v)) {
                    return true;
                }
            }
            return false;
        }

        int oneWaysFrom(int s) {
            int many = 0;
            for (int v = 0; v < steps; v++) {
                if (goesFrom(s, v) && !goesFrom(s + shift[v], v ^ 1)) {
                    many++;
                }
            }
            return many;
        }
    }

    /** How far stands are from a stand, or to it (back), by the fewest steps. */
    private static final class Paths {
        private final boolean back;
        private int edition = NONE;
        private int wornBits = NONE;
        private int source = NONE;
        private int many;
        private int[] far = new int[0];
        private int[] order = new int[0];

        Paths(boolean back) {
            this.back = back;
        }

        /** Finds them for a stand, as steps go now; what is found of it already stays. */
        void seek(Graph g, int stand) {
            if (edition == g.edition && wornBits == g.wornBits && source == stand) {
                return;
            }
            spread(g, g.goes, stand, NONE);
            edition = g.edition;
            wornBits = g.wornBits;
            source = stand;
        }

        /** Finds them all, or till the goal is found. */
        void spread(Graph g, int[] goes, int stand, int goal) {
            begin(g, stand);
            for (int head = 0; head < g.stands && head < many && farOf(goal) == NONE; head++) {
                int s = order[head];
                if (back) {
                    visitAhead(g, goes, s);
                } else {
                    visit(g, s, maskOf(g, goes, s), farOf(s) + 1);
                }
            }
        }

        private static int maskOf(Graph g, int[] goes, int s) {
            return s >= 0 && s < g.stands && s < goes.length ? goes[s] : 0;
        }

        private void begin(Graph g, int stand) {
            source = NONE;
            many = 0;
            far = grown(far, g.stands, MOST_STANDS);
            order = grown(order, g.stands, MOST_STANDS);
            for (int s = 0; s < far.length && s < g.stands; s++) {
                far[s] = NONE;
            }
            take(stand, 0);
        }

        private void take(int s, int steps) {
            if (s >= 0 && s < far.length && far[s] == NONE && many < order.length) {
                far[s] = steps;
                order[many] = s;
                many++;
            }
        }

        /** Takes the stands behind these steps of s. */
        private void visit(Graph g, int s, int mask, int steps) {
            for (int v = 0; v < g.steps && mask >> v != 0; v++) {
                if ((mask >> v & 1) == 1) {
                    take(s + g.shift[v], steps);
                }
            }
        }

        /** Takes the stands from which a step leads to s. A step past a bar's end would be no step that goes. */
        private void visitAhead(Graph g, int[] goes, int s) {
            for (int v = 0; v < g.steps; v++) {
                int from = s - g.shift[v];
                if ((maskOf(g, goes, from) >> v & 1) == 1) {
                    take(from, farOf(s) + 1);
                }
            }
        }

        int farOf(int s) {
            return s >= 0 && s < far.length ? far[s] : NONE;
        }

        int farthestStand() {
            int best = NONE;
            for (int i = 0; i < many; i++) {
                int s = order[i];
                if (farOf(s) > farOf(best) || farOf(s) == farOf(best) && s < best) {
                    best = s;
                }
            }
            return best;
        }

        int manyWithin(int n) {
            int found = 0;
            while (found < many && farOf(order[found]) <= n) {
                found++;
            }
            return found;
        }

        /** Of paths back: the first step by numbers on a shortest verse from s. */
        int lineFrom(Graph g, int s) {
            for (int v = 0; v < g.steps && farOf(s) > 0; v++) {
                if (g.goesFrom(s, v) && farOf(s + g.shift[v]) == farOf(s) - 1) {
                    return v;
                }
            }
            return NONE;
        }

        /** Of paths back: line k of the shortest verse from s, or its length for NONE. */
        int lineOf(Graph g, int from, int k) {
            int length = farOf(from);
            if (k == NONE || k < 0 || k >= length) {
                return k == NONE ? length : NONE;
            }
            int s = from;
            for (int i = 0; i < k; i++) {
                s = g.behind(s, lineFrom(g, s));
            }
            return lineFrom(g, s);
        }

        /** The fewest steps of bar b on a verse from a stand to OPEN: stands are taken by how many of these they need. */
        int fewestOwn(Graph g, int from, int b) {
            int own = 3 << (2 * b);
            begin(g, from);
            int first = 0;
            for (int round = 0; round <= g.stands && first < many; round++) {
                for (int head = first; head < g.stands && head < many; head++) {
                    visit(g, order[head], g.stepsFrom(order[head]) & ~own, round);
                }
                if (farOf(g.openStand) != NONE) {
                    return farOf(g.openStand);
                }
                int end = many;
                for (int i = first; i < end; i++) {
                    visit(g, order[i], g.stepsFrom(order[i]) & own, round + 1);
                }
                first = end;
            }
            return NONE;
        }
    }

    /** Counts rows of steps, by the stands they lead to. */
    private static final class Counter {
        private long[] here = new long[0];
        private long[] next = new long[0];

        private void begin(Graph g, int stand) {
            here = grownLong(here, g.stands, MOST_STANDS);
            next = grownLong(next, g.stands, MOST_STANDS);
            for (int s = 0; s < g.stands && s < here.length; s++) {
                here[s] = s == stand ? 1 : 0;
            }
        }

        /** All rows are led on by each of these steps that goes, but none into the stand that is shut. */
        private void leadOn(Graph g, int steps, int shutStand) {
            for (int s = 0; s < g.stands && s < next.length; s++) {
                next[s] = 0;
            }
            for (int s = 0; s < g.stands && s < here.length; s++) {
                int mask = here[s] == 0 ? 0 : g.stepsFrom(s) & steps;
                for (int v = 0; v < g.steps && mask >> v != 0; v++) {
                    int t = s + g.shift[v];
                    if ((mask >> v & 1) == 1 && t != shutStand && t >= 0 && t < next.length) {
                        next[t] += here[s];
                    }
                }
            }
            long[] old = here;
            here = next;
            next = old;
        }

        /** Rows of n steps from a stand that are never in the one that is shut. */
        long rowsFrom(Graph g, int stand, int n, int shutStand) {
            if (stand == shutStand) {
                return 0;
            }
            begin(g, stand);
            for (int i = 0; i < n; i++) {
                leadOn(g, ALL_STEPS, shutStand);
            }
            long all = 0;
            for (int s = 0; s < g.stands && s < here.length; s++) {
                all += here[s];
            }
            return all;
        }

        /** Verses from a stand to OPEN whose lines are as in a tray. */
        long versesAsTold(Graph g, int stand, Tray verse) {
            begin(g, stand);
            for (int i = 0; i < verse.many; i++) {
                long v = verse.numbers[i];
                int steps = v >= 0 && v < g.steps ? 1 << (int) v : 0;
                leadOn(g, v == NONE ? ALL_STEPS : steps, NONE);
            }
            return rowsAt(g.openStand);
        }

        private long rowsAt(int s) {
            return s >= 0 && s < here.length ? here[s] : 0;
        }

        /** Shortest verses to OPEN: stands come by their distance, so that each is whole when it is led on. */
        long waysToOpen(Graph g, Paths from) {
            begin(g, from.source);
            for (int i = 0; i < from.many; i++) {
                int s = from.order[i];
                int mask = g.stepsFrom(s);
                for (int v = 0; v < g.steps && mask >> v != 0; v++) {
                    int t = s + g.shift[v];
                    boolean goes = (mask >> v & 1) == 1;
                    if (goes && t >= 0 && t < here.length && from.farOf(t) == from.farOf(s) + 1) {
                        here[t] += rowsAt(s);
                    }
                }
            }
            return rowsAt(g.openStand);
        }
    }

    /** Two who step by turns: nodes are 2 times a stand, and 1 more if it is the other's turn. */
    private static final class Game {
        private int[] turns = new int[0];
        private int[] left = new int[0];
        private int[] settled = new int[0];
        private int many;

        /** From OPEN back, by turns: the first is done with one good step, the other when the last of his is bad. */
        int turnsToOpen(Graph g, int stand) {
            begin(g);
            settle(2 * g.openStand, 0);
            settle(2 * g.openStand + 1, 0);
            for (int i = 0; i < settled.length && i < many && turnsOf(2 * stand) == NONE; i++) {
                if (turnsOf(settled[i]) < MOST_TURNS) {
                    settleAhead(g, settled[i]);
                }
            }
            return turnsOf(2 * stand);
        }

        private void begin(Graph g) {
            turns = grown(turns, 2 * g.stands, 2 * MOST_STANDS);
            left = grown(left, g.stands, MOST_STANDS);
            settled = grown(settled, 2 * g.stands, 2 * MOST_STANDS);
            many = 0;
            for (int s = 0; s < g.stands && s < left.length; s++) {
                left[s] = Integer.bitCount(g.stepsFrom(s));
            }
            for (int node = 0; node < 2 * g.stands && node < turns.length; node++) {
                turns[node] = NONE;
            }
        }

        private int turnsOf(int node) {
            return node >= 0 && node < turns.length ? turns[node] : NONE;
        }

        private void settle(int node, int after) {
            if (node >= 0 && node < turns.length && turns[node] == NONE && many < settled.length) {
                turns[node] = after;
                settled[many] = node;
                many++;
            }
        }

        /** Settles whom a step, or passing, leads to this node. */
        private void settleAhead(Graph g, int node) {
            int s = node >> 1;
            int after = turnsOf(node) + 1;
            boolean othersAhead = (node & 1) == 0;
            if (g.stepsFrom(s) == 0) {
                settle(node ^ 1, after);
            }
            for (int v = 0; v < g.steps; v++) {
                int t = s - g.shift[v];
                if (!g.goesFrom(t, v)) {
                    continue;
                }
                if (!othersAhead) {
                    settle(2 * t, after);
                } else if (isLastOf(t)) {
                    settle(2 * t + 1, after);
                }
            }
        }

        /** One step less that the other may hope for from a stand: whether it was the last. */
        private boolean isLastOf(int s) {
            if (s < 0 || s >= left.length) {
                return false;
            }
            left[s]--;
            return left[s] == 0;
        }
    }

    /** The rule more that makes the way to OPEN longest: steps, bar, from, to, other bar, not, place. */
    private static final class Notches {
        private final int[] best = new int[7];
        private final int[] rule = new int[7];
        private int edition = NONE;
        private int wornBits = NONE;
        private int stand = NONE;
        private int bound = NONE;

        /** Finds it for a bound of steps; what is found already stays, as seven calls ask for it. */
        void seek(Box box, Graph g, Paths paths, int m) {
            int now = box.standOf(box.at);
            if (edition == g.edition && wornBits == g.wornBits && stand == now && bound == m) {
                return;
            }
            edition = g.edition;
            wornBits = g.wornBits;
            stand = now;
            bound = m;
            for (int i = 0; i < best.length; i++) {
                best[i] = NONE;
            }
            for (int b = 0; b < box.bars; b++) {
                for (int from = 0; from < box.places[b]; from++) {
                    seekStep(box, g, paths, b, from, from - 1);
                    seekStep(box, g, paths, b, from, from + 1);
                }
            }
        }

        private void seekStep(Box box, Graph g, Paths paths, int b, int from, int to) {
            if (to < 0 || to >= box.placesOf(b)) {
                return;
            }
            rule[1] = b;
            rule[2] = from;
            rule[3] = to;
            for (int c = 0; c < box.bars; c++) {
                for (int fact = 0; c != b && fact < 2 * box.places[c]; fact++) {
                    rule[4] = c;
                    rule[5] = fact < box.places[c] ? 0 : 1;
                    rule[6] = fact - rule[5] * box.places[c];
                    tryRule(box, g, paths);
                }
            }
        }

        private void tryRule(Box box, Graph g, Paths paths) {
            g.notchMore(box, rule, box.hasRule(rule[1], rule[2], rule[3]));
            paths.spread(g, g.tried, stand, g.openStand);
            rule[0] = paths.farOf(g.openStand);
            if (rule[0] <= bound && rule[0] > best[0]) {
                System.arraycopy(rule, 0, best, 0, best.length);
            }
        }
    }

    /** Which lines of the shortest verse to keep. */
    private static final class Kept {
        private final int[] verse = new int[MOST_NUMBERS];
        private final int[] stands = new int[MOST_NUMBERS + 1];
        private final int[] led = new int[2 * MOST_BARS];
        private int length;
        private int most;
        private int first;
        private int second;

        void takeVerse(Graph g, Paths open, int from) {
            length = Math.min(Math.max(0, open.farOf(from)), MOST_NUMBERS);
            int s = from;
            for (int i = 0; i < length; i++) {
                stands[i] = s;
                verse[i] = open.lineFrom(g, s);
                s = g.behind(s, verse[i]);
            }
            stands[length] = s;
        }

        void seek(Graph g, int n) {
            most = 0;
            first = NONE;
            second = NONE;
            if (n == 1) {
                // No two steps shift a stand alike: a line that alone isn't known can be itself only.
                most = 1;
                first = 0;
                return;
            }
            for (int i = 0; i < length; i++) {
                seekWith(g, i);
            }
        }

        /** Tries line i with each later one, leading on all that line i may be. */
        private void seekWith(Graph g, int i) {
            for (int v = 0; v < led.length; v++) {
                led[v] = g.goesFrom(stands[i], v) ? g.behind(stands[i], v) : NONE;
            }
            for (int j = i + 1; j < length; j++) {
                int many = 0;
                for (int v = 0; v < led.length; v++) {
                    // The lines behind j are told and end in OPEN, so they begin where they do in the verse.
                    many += led[v] != NONE && g.leads(led[v], stands[j + 1]) ? 1 : 0;
                    led[v] = g.goesFrom(led[v], verse[j]) ? g.behind(led[v], verse[j]) : NONE;
                }
                if (many > most) {
                    most = many;
                    first = i;
                    second = j;
                }
            }
        }
    }

    /** Facts by which a step goes just as told, and where to try next. */
    private static final class Fits {
        private final int[] codes = new int[2 * MOST_BARS * MOST_PLACES];
        private final int[] holding = new int[MOST_BARS * MOST_PLACES];
        private final int[] row = new int[MOST_BARS];
        private int many;
        private int tryStand;
        private int tryLeft;

        void find(Box box, Tray tray, int b) {
            many = 0;
            for (int c = 0; c < box.bars; c++) {
                for (int fact = 0; c != b && fact < 2 * box.places[c]; fact++) {
                    int not = fact < box.places[c] ? 0 : 1;
                    int place = fact - not * box.places[c];
                    if (isAsTold(box, tray, c, not, place) && many < codes.length) {
                        codes[many] = 100 * c + 10 * not + place;
                        many++;
                    }
                }
            }
        }

        private boolean isAsTold(Box box, Tray tray, int c, int not, int place) {
            for (int i = 0; i < tray.many; i++) {
                long number = tray.numbers[i];
                boolean there = box.placeOf((int) (number >> 1), c) == place;
                boolean went = (number & 1) == 1;
                if ((there != (not == 1)) != went) {
                    return false;
                }
            }
            return true;
        }

        /** The stand where the greater part, of facts that hold and of those that don't, is least. */
        void seekTry(Box box) {
            countHolding(box);
            tryStand = NONE;
            tryLeft = NONE;
            for (int b = 0; b < MOST_BARS; b++) {
                row[b] = 0;
            }
            int stands = box.standCount();
            for (int s = 0; s < stands; s++) {
                int holds = 0;
                for (int b = 0; b < box.bars; b++) {
                    holds += holding[MOST_PLACES * b + row[b]];
                }
                int left = Math.max(holds, many - holds);
                if (tryStand == NONE || left < tryLeft) {
                    tryStand = s;
                    tryLeft = left;
                }
                box.advance(row);
            }
        }

        /** For each place of each bar: how many of the facts hold with the bar there. */
        private void countHolding(Box box) {
            for (int i = 0; i < holding.length; i++) {
                holding[i] = 0;
            }
            for (int i = 0; i < many; i++) {
                int b = codes[i] / 100;
                int not = codes[i] / 10 % 10;
                for (int p = 0; p < box.placesOf(b); p++) {
                    holding[MOST_PLACES * b + p] += (p == codes[i] % 10) != (not == 1) ? 1 : 0;
                }
            }
        }
    }
}
