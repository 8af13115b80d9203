import java.math.BigInteger;
import java.util.ArrayDeque;
import java.util.ArrayList;
import java.util.Arrays;
import java.util.HashMap;
import java.util.HashSet;
import java.util.List;
import java.util.Map;
import java.util.NoSuchElementException;
import java.util.Set;
import java.util.TreeMap;
import java.util.regex.Matcher;
import java.util.regex.Pattern;

/** The document told a second time, plainly and slowly, for ModelTest. */
final class Model {
    private record Fact(int bar, boolean not, int place) {
        boolean in(int[] at) {
            return not ? at[bar] != place : at[bar] == place;
        }
    }

    private record Rule(int bar, int from, int to, List<Fact> facts) {
        boolean holds(int[] at) {
            return facts.stream().allMatch(f -> f.in(at));
        }
    }

    private record Bar(int places, int start, int open) {
    }

    private record Text(int lines, List<Bar> bars, List<Rule> rules, int nested, int wear) {
    }

    private record State(Text text, int[] at, int[] made) {
        State copy() {
            return new State(text, at.clone(), made.clone());
        }
    }

    private static final class Fault extends RuntimeException {
        final int kind;
        final int place;

        Fault(int kind, int place) {
            this.kind = kind;
            this.place = place;
        }
    }

    private final StringBuilder tape = new StringBuilder();
    private int fault = 0;
    private int faultAt = -1;
    private State now = new State(new Text(0, List.of(), List.of(), 0, 0), new int[0], new int[0]);
    private final State[] images = new State[3];
    private final long[][] trays = new long[4][];
    private final int[] sorts = new int[4];

    // ---- the text

    private record Token(String word, int place) {
        boolean isNumber() {
            return !word.isEmpty() && Character.isDigit(word.charAt(0));
        }
    }

    private List<Token> tokens;
    private int next;

    private static List<Token> tokensOf(String text) {
        List<Token> all = new ArrayList<>();
        Matcher m = Pattern.compile("([ \n]+)|([a-z]+|;|(?<![0-9])[0-9]{1,3}(?![0-9]))|(.)", Pattern.DOTALL).matcher(text);
        while (m.find()) {
            if (m.group(2) != null) {
                all.add(new Token(m.group(2), m.start()));
            } else if (m.group(3) != null) {
                all.add(new Token("?", m.start()));
                return all;
            }
        }
        all.add(new Token("", text.length()));
        return all;
    }

    private Token peek() {
        Token t = tokens.get(next);
        if (t.word.equals("?")) {
            throw new Fault(1, t.place);
        }
        return t;
    }

    private Token take() {
        Token t = peek();
        next++;
        return t;
    }

    private boolean takes(String word) {
        boolean is = peek().word.equals(word);
        next += is ? 1 : 0;
        return is;
    }

    private void expect(String word) {
        Token t = peek();
        if (!takes(word)) {
            throw new Fault(2, t.place);
        }
    }

    private int number(Integer... allowed) {
        Token t = take();
        if (!t.isNumber()) {
            throw new Fault(2, t.place);
        }
        int n = Integer.parseInt(t.word);
        if (!Arrays.asList(allowed).contains(n)) {
            throw new Fault(3, t.place);
        }
        return n;
    }

    private static Integer[] upTo(int from, int below) {
        Integer[] all = new Integer[Math.max(0, below - from)];
        for (int i = 0; i < all.length; i++) {
            all[i] = from + i;
        }
        return all;
    }

    private Text parse(String text) {
        tokens = tokensOf(text);
        next = 0;
        int lines = 0;
        int nested = 0;
        int wear = 0;
        List<Bar> bars = new ArrayList<>();
        List<Rule> rules = new ArrayList<>();
        while (!peek().word.isEmpty()) {
            Token first = take();
            switch (first.word) {
                case "bar" -> {
                    if (bars.size() == 9) {
                        throw new Fault(4, first.place);
                    }
                    int places = number(2, 3, 4);
                    int start = takes("at") ? number(upTo(0, places)) : 0;
                    int open = takes("open") ? number(upTo(0, places)) : places - 1;
                    bars.add(new Bar(places, start, open));
                }
                case "rule" -> {
                    if (rules.size() == 24) {
                        throw new Fault(4, first.place);
                    }
                    rules.add(parseRule(bars));
                }
                case "nested" -> nested = number(upTo(2, bars.size() + 1));
                case "wear" -> wear = number(upTo(0, 100));
                default -> throw new Fault(2, first.place);
            }
            expect(";");
            lines++;
        }
        return new Text(lines, bars, rules, nested, wear);
    }

    private Rule parseRule(List<Bar> bars) {
        int b = number(upTo(0, bars.size()));
        int places = bars.get(b).places;
        int from = number(upTo(0, places));
        expect("to");
        List<Integer> beside = new ArrayList<>();
        if (from > 0) {
            beside.add(from - 1);
        }
        if (from < places - 1) {
            beside.add(from + 1);
        }
        int to = number(beside.toArray(new Integer[0]));
        expect("if");
        List<Fact> facts = new ArrayList<>();
        do {
            if (facts.size() == 4) {
                throw new Fault(4, tokens.get(next - 1).place);
            }
            List<Integer> others = new ArrayList<>(List.of(upTo(0, bars.size())));
            others.remove((Integer) b);
            int other = number(others.toArray(new Integer[0]));
            boolean not = takes("not");
            if (!not) {
                expect("at");
            }
            facts.add(new Fact(other, not, number(upTo(0, bars.get(other).places))));
        } while (takes("and"));
        return new Rule(b, from, to, facts);
    }

    int feed(int a, int b, int c, int d, int e) {
        if (tape.length() + 20 > 900) {
            return -1;
        }
        for (int i : new int[] {a, b, c, d, e}) {
            tape.append((char) (i >>> 24)).append((char) (i >> 16 & 255)).append((char) (i >> 8 & 255)).append((char) (i & 255));
        }
        return tape.length();
    }

    int box(int n) {
        if (n < 0 || n > tape.length()) {
            throw new IllegalArgumentException();
        }
        String text = tape.substring(0, n);
        tape.setLength(0);
        try {
            Text t = parse(text);
            now = new State(t, t.bars.stream().mapToInt(Bar::start).toArray(), new int[t.bars.size()]);
            fault = 0;
            faultAt = -1;
            return t.lines;
        } catch (Fault f) {
            fault = f.kind;
            faultAt = f.place;
            return -10 - f.kind;
        }
    }

    int fault(int what) {
        return what == 0 ? fault : what == 1 ? faultAt : -1;
    }

    // ---- the state

    private int bars() {
        return now.text.bars.size();
    }

    private int standsOf() {
        return now.text.bars.stream().mapToInt(Bar::places).reduce(1, (x, y) -> x * y);
    }

    private int code(int[] at) {
        int s = 0;
        int weight = 1;
        for (int b = 0; b < bars(); b++) {
            s += weight * at[b];
            weight *= now.text.bars.get(b).places;
        }
        return s;
    }

    private int[] decode(int stand) {
        int[] at = new int[bars()];
        for (int b = 0; b < at.length; b++) {
            at[b] = stand % now.text.bars.get(b).places;
            stand /= now.text.bars.get(b).places;
        }
        return at;
    }

    private int openCode() {
        return code(now.text.bars.stream().mapToInt(Bar::open).toArray());
    }

    private static Set<Integer> wornOf(State s) {
        Set<Integer> worn = new HashSet<>();
        for (int b = 0; b < s.at.length; b++) {
            if (s.text.wear > 0 && s.made[b] >= s.text.wear) {
                worn.add(b);
            }
        }
        return worn;
    }

    private static int why(Text t, List<Rule> rules, int[] at, Set<Integer> worn, int b, boolean up) {
        if (b < 0 || b >= at.length) {
            return 1;
        }
        int from = at[b];
        int to = up ? from + 1 : from - 1;
        if (to < 0 || to >= t.bars.get(b).places) {
            return 2;
        }
        if (b < t.nested && from + to == 1 && b > 0) {
            boolean free = at[b - 1] == 1;
            for (int c = 0; c < b - 1; c++) {
                free = free && at[c] == 0;
            }
            if (!free) {
                return 3;
            }
        }
        List<Rule> mine = rules.stream().filter(r -> r.bar == b && r.from == from && r.to == to).toList();
        if (!mine.isEmpty() && mine.stream().noneMatch(r -> r.holds(at)) && !worn.contains(b)) {
            return 4;
        }
        return 0;
    }

    private static int whyIn(State s, int b, boolean up) {
        return why(s.text, s.text.rules, s.at, wornOf(s), b, up);
    }

    private static int makeIn(State s, int b, boolean up) {
        int why = whyIn(s, b, up);
        if (why == 0) {
            s.at[b] += up ? 1 : -1;
            s.made[b]++;
        }
        return why;
    }

    private static int makeIn(State s, long number) {
        return number < 0 || number >= 2 * s.at.length ? 1 : makeIn(s, (int) number / 2, number % 2 == 1);
    }

    private static boolean openIn(State s) {
        for (int b = 0; b < s.at.length; b++) {
            if (s.at[b] != s.text.bars.get(b).open) {
                return false;
            }
        }
        return true;
    }

    private boolean spent() {
        return standsOf() > 20000;
    }

    private void needBar(int b) {
        if (b < 0 || b >= bars()) {
            throw new NoSuchElementException();
        }
    }

    private void needStand(int s) {
        if (s < 0 || s >= standsOf()) {
            throw new NoSuchElementException();
        }
    }

    private void needFew() {
        if (spent()) {
            throw new IllegalStateException();
        }
    }

    private void needTray(int t) {
        if (t < 0 || t > 3) {
            throw new NoSuchElementException();
        }
        if (trays[t] == null) {
            throw new IllegalStateException();
        }
    }

    private static void needArgument(boolean good) {
        if (!good) {
            throw new IllegalArgumentException();
        }
    }

    int bar(int b, int what) {
        needBar(b);
        needArgument(what >= 0 && what <= 5);
        Bar bar = now.text.bars.get(b);
        return switch (what) {
            case 0 -> bar.places;
            case 1 -> now.at[b];
            case 2 -> bar.open;
            case 3 -> now.made[b];
            case 4 -> wornOf(now).contains(b) ? 1 : 0;
            default -> (int) now.text.rules.stream().filter(r -> r.bar == b).count();
        };
    }

    int rule(int r, int what) {
        if (r < 0 || r >= now.text.rules.size()) {
            throw new NoSuchElementException();
        }
        needArgument(what >= 0 && what <= 4);
        Rule rule = now.text.rules.get(r);
        return switch (what) {
            case 0 -> rule.bar;
            case 1 -> rule.from;
            case 2 -> rule.to;
            case 3 -> rule.facts.size();
            default -> rule.holds(now.at) ? 1 : 0;
        };
    }

    int stand() {
        return spent() ? -1000 : code(now.at);
    }

    int placeIn(int stand, int b) {
        needBar(b);
        needStand(stand);
        needFew();
        return decode(stand)[b];
    }

    boolean isOpen() {
        return openIn(now);
    }

    int may(int b, boolean up) {
        return whyIn(now, b, up);
    }

    int step(int b, boolean up) {
        int why = makeIn(now, b, up);
        return why == 0 ? now.at[b] : -why;
    }

    int stops(int b, boolean up) {
        if (whyIn(now, b, up) == 0) {
            return -1;
        }
        for (int c = 0; c < bars(); c++) {
            for (int p = 0; p < now.text.bars.get(c).places && c != b; p++) {
                int[] at = now.at.clone();
                at[c] = p;
                if (p != now.at[c] && why(now.text, now.text.rules, at, wornOf(now), b, up) == 0) {
                    return c;
                }
            }
        }
        return -1;
    }

    int judge(int tray, int what) {
        needTray(tray);
        needArgument(what >= 0 && what <= 3);
        State s = now.copy();
        int bad = -1;
        int why = 0;
        int open = openIn(s) ? -2 : -1;
        for (int i = 0; i < trays[tray].length && bad < 0; i++) {
            why = makeIn(s, trays[tray][i]);
            if (why != 0) {
                bad = i;
            } else if (open == -1 && openIn(s)) {
                open = i;
            }
        }
        return what == 0 ? bad : what == 1 ? why : what == 2 ? (openIn(s) ? 1 : 0) : open;
    }

    int perform(int tray) {
        needTray(tray);
        int made = 0;
        for (long number : trays[tray]) {
            if (makeIn(now, number) != 0) {
                break;
            }
            made++;
        }
        return made;
    }

    int thief(int seed, int times) {
        needArgument(times >= 1 && times <= 60);
        if (bars() == 0) {
            throw new IllegalStateException();
        }
        int[] x = {seed};
        int made = 0;
        for (int i = 0; i < times; i++) {
            if (openIn(now)) {
                break;
            }
            int b = draw(x) % bars();
            boolean up = draw(x) % 2 == 1;
            made += makeIn(now, b, up) == 0 ? 1 : 0;
        }
        return made;
    }

    private static int draw(int[] x) {
        x[0] = 1103515245 * x[0] + 12345;
        return x[0] >>> 16;
    }

    // ---- verses

    /** From every stand, by number of the step: where it leads. */
    private Map<Integer, TreeMap<Integer, Integer>> ways(List<Rule> rules, Set<Integer> worn) {
        Map<Integer, TreeMap<Integer, Integer>> all = new HashMap<>();
        for (int s = 0; s < standsOf(); s++) {
            TreeMap<Integer, Integer> mine = new TreeMap<>();
            int[] at = decode(s);
            for (int v = 0; v < 2 * bars(); v++) {
                if (why(now.text, rules, at, worn, v / 2, v % 2 == 1) == 0) {
                    at[v / 2] += v % 2 == 1 ? 1 : -1;
                    mine.put(v, code(at));
                    at[v / 2] -= v % 2 == 1 ? 1 : -1;
                }
            }
            all.put(s, mine);
        }
        return all;
    }

    private Map<Integer, TreeMap<Integer, Integer>> ways(Set<Integer> alsoWorn) {
        Set<Integer> worn = wornOf(now);
        worn.addAll(alsoWorn);
        return ways(now.text.rules, worn);
    }

    private static Map<Integer, Integer> far(Map<Integer, TreeMap<Integer, Integer>> ways, int from) {
        Map<Integer, Integer> far = new TreeMap<>();
        far.put(from, 0);
        ArrayDeque<Integer> queue = new ArrayDeque<>(List.of(from));
        while (!queue.isEmpty()) {
            int s = queue.poll();
            for (int t : ways.get(s).values()) {
                if (far.putIfAbsent(t, far.get(s) + 1) == null) {
                    queue.add(t);
                }
            }
        }
        return far;
    }

    private Map<Integer, Integer> farNow() {
        return far(ways(Set.of()), code(now.at));
    }

    /** The first of the shortest verses, or null: rows of verses grow in order, stand by stand. */
    private static List<Integer> verse(Map<Integer, TreeMap<Integer, Integer>> ways, int from, int to) {
        Map<Integer, List<Integer>> best = new HashMap<>();
        best.put(from, List.of());
        List<Integer> front = List.of(from);
        while (!front.isEmpty() && !best.containsKey(to)) {
            List<Integer> after = new ArrayList<>();
            // the front is in the order of its verses, so the first to come to a stand has the first verse
            for (int s : front) {
                for (Map.Entry<Integer, Integer> e : ways.get(s).entrySet()) {
                    if (!best.containsKey(e.getValue())) {
                        List<Integer> row = new ArrayList<>(best.get(s));
                        row.add(e.getKey());
                        best.put(e.getValue(), row);
                        after.add(e.getValue());
                    }
                }
            }
            front = after;
        }
        return best.get(to);
    }

    private List<Integer> verseNow() {
        return verse(ways(Set.of()), code(now.at), openCode());
    }

    private static int lineOf(List<Integer> verse, int k) {
        if (verse == null) {
            return -1;
        }
        return k == -1 ? verse.size() : k >= 0 && k < verse.size() ? verse.get(k) : -1;
    }

    int reached() {
        return spent() ? -1000 : farNow().size();
    }

    boolean canBe(int stand) {
        needStand(stand);
        needFew();
        return farNow().containsKey(stand);
    }

    int shortest(int from, int to, int k) {
        needStand(from);
        needStand(to);
        needFew();
        return lineOf(verse(ways(Set.of()), from, to), k);
    }

    int opening(int k) {
        needFew();
        return lineOf(verseNow(), k);
    }

    long ways() {
        needFew();
        List<Integer> verse = verseNow();
        return verse == null ? 0 : rowsTo(verse.size(), null).longValue();
    }

    /** Rows of n steps from now that end OPEN, as told (a row with -1 for what isn't, or null: nothing is). */
    private BigInteger rowsTo(int n, long[] told) {
        Map<Integer, TreeMap<Integer, Integer>> ways = ways(Set.of());
        Map<Integer, BigInteger> rows = Map.of(code(now.at), BigInteger.ONE);
        for (int i = 0; i < n; i++) {
            Map<Integer, BigInteger> after = new HashMap<>();
            for (int s : rows.keySet()) {
                for (Map.Entry<Integer, Integer> e : ways.get(s).entrySet()) {
                    if (told == null || told[i] == -1 || told[i] == e.getKey()) {
                        after.merge(e.getValue(), rows.get(s), BigInteger::add);
                    }
                }
            }
            rows = after;
        }
        return rows.getOrDefault(openCode(), BigInteger.ZERO);
    }

    int farthest(int what) {
        needFew();
        needArgument(what == 0 || what == 1);
        int steps = -1;
        int stand = -1;
        for (Map.Entry<Integer, Integer> e : farNow().entrySet()) {
            if (e.getValue() > steps) {
                steps = e.getValue();
                stand = e.getKey();
            }
        }
        return what == 0 ? steps : stand;
    }

    int within(int n) {
        needFew();
        needArgument(n >= 0 && n <= 999);
        return (int) farNow().values().stream().filter(f -> f <= n).count();
    }

    boolean fromStart(int stand) {
        needStand(stand);
        needFew();
        return far(ways(Set.of()), code(now.text.bars.stream().mapToInt(Bar::start).toArray())).containsKey(stand);
    }

    int dead(int what) {
        needFew();
        needArgument(what == 0 || what == 1);
        Map<Integer, TreeMap<Integer, Integer>> ways = ways(Set.of());
        List<Integer> dead = far(ways, code(now.at)).keySet().stream()
                .filter(s -> !far(ways, s).containsKey(openCode())).toList();
        return what == 0 ? dead.size() : dead.isEmpty() ? -1 : dead.get(0);
    }

    int oneWays() {
        needFew();
        Map<Integer, TreeMap<Integer, Integer>> ways = ways(Set.of());
        int many = 0;
        for (int s : far(ways, code(now.at)).keySet()) {
            for (Map.Entry<Integer, Integer> e : ways.get(s).entrySet()) {
                many += ways.get(e.getValue()).containsKey(e.getKey() ^ 1) ? 0 : 1;
            }
        }
        return many;
    }

    int fewestOf(int b) {
        needBar(b);
        needFew();
        Map<Integer, TreeMap<Integer, Integer>> ways = ways(Set.of());
        int[] cost = new int[standsOf()];
        Arrays.fill(cost, Integer.MAX_VALUE / 2);
        cost[code(now.at)] = 0;
        boolean better = true;
        while (better) {
            better = false;
            for (int s = 0; s < cost.length; s++) {
                for (Map.Entry<Integer, Integer> e : ways.get(s).entrySet()) {
                    int c = cost[s] + (e.getKey() / 2 == b ? 1 : 0);
                    if (c < cost[e.getValue()]) {
                        cost[e.getValue()] = c;
                        better = true;
                    }
                }
            }
        }
        int c = cost[openCode()];
        return c >= Integer.MAX_VALUE / 2 ? -1 : c;
    }

    int musts(int what) {
        needFew();
        needArgument(what == 0 || what >= 10);
        Map<Integer, TreeMap<Integer, Integer>> ways = ways(Set.of());
        int from = code(now.at);
        Integer length = far(ways, from).get(openCode());
        if (length == null) {
            return what == 0 ? 0 : -1;
        }
        List<Integer> musts = new ArrayList<>();
        Map<Integer, Integer> far = far(ways, from);
        for (int s : far.keySet()) {
            // without s: is there still a verse as short?
            Map<Integer, TreeMap<Integer, Integer>> without = new HashMap<>(ways);
            without.put(s, new TreeMap<>());
            Integer other = s == from || s == openCode() ? null : far(without, from).get(openCode());
            if (other == null || other > length) {
                musts.add(s);
            }
        }
        musts.sort((x, y) -> far.get(x) - far.get(y));
        return what == 0 ? musts.size() : what - 10 < musts.size() ? musts.get(what - 10) : -1;
    }

    /** By rings, one by one: the lowest set ones say which ring must move to bring the highest down. */
    private static List<Integer> rings(int n, int bits) {
        List<Integer> moves = new ArrayList<>();
        int[] ring = {bits};
        for (int k = n - 1; k >= 0; k--) {
            if ((ring[0] >> k & 1) == 1) {
                set(ring, k, false, moves);
            }
        }
        return moves;
    }

    /** Brings ring k up or down with all lower ones as it needs. */
    private static void set(int[] ring, int k, boolean up, List<Integer> moves) {
        if ((ring[0] >> k & 1) == 1 == up) {
            return;
        }
        if (k > 0) {
            set(ring, k - 1, true, moves);
            for (int c = k - 2; c >= 0; c--) {
                set(ring, c, false, moves);
            }
        }
        ring[0] ^= 1 << k;
        moves.add(k);
    }

    int halves(int n, int bits) {
        needArgument(n >= 1 && n <= 30 && bits >= 0 && bits < 1L << n);
        return rings(n, bits).size();
    }

    int halvesFirst(int n, int bits) {
        needArgument(n >= 1 && n <= 30 && bits >= 0 && bits < 1L << n);
        return bits == 0 ? -1 : rings(n, bits).get(0);
    }

    int ifWorn(int b) {
        needBar(b);
        needFew();
        return lineOf(verse(ways(Set.of(b)), code(now.at), openCode()), -1);
    }

    int weakest() {
        needFew();
        int best = -1;
        for (int b = 0; b < bars(); b++) {
            if (ifWorn(b) != -1 && (best == -1 || ifWorn(b) < ifWorn(best))) {
                best = b;
            }
        }
        return best;
    }

    int hardest(int m, int what) {
        needArgument(m >= 1 && m <= 999 && what >= 0 && what <= 6);
        if (standsOf() > 600) {
            throw new IllegalStateException();
        }
        int[] best = {-1, -1, -1, -1, -1, -1, -1};
        for (int b = 0; b < bars(); b++) {
            for (int f = 0; f < now.text.bars.get(b).places; f++) {
                for (int t = 0; t < now.text.bars.get(b).places; t++) {
                    for (int c = 0; c < bars(); c++) {
                        for (int not = 0; not < 2; not++) {
                            for (int p = 0; p < now.text.bars.get(c).places; p++) {
                                if (Math.abs(t - f) == 1 && c != b) {
                                    List<Rule> rules = new ArrayList<>(now.text.rules);
                                    rules.add(new Rule(b, f, t, List.of(new Fact(c, not == 1, p))));
                                    Integer far = far(ways(rules, wornOf(now)), code(now.at)).get(openCode());
                                    if (far != null && far <= m && far > best[0]) {
                                        best = new int[] {far, b, f, t, c, not, p};
                                    }
                                }
                            }
                        }
                    }
                }
            }
        }
        return best[what];
    }

    long known(int tray) {
        needTray(tray);
        needFew();
        needArgument(trays[tray].length >= 1);
        return rowsTo(trays[tray].length, trays[tray]).longValue();
    }

    long keeps(int n, int what) {
        needArgument((n == 1 || n == 2) && what >= 0 && what <= 2);
        needFew();
        List<Integer> verse = verseNow();
        if (verse == null || verse.size() > 40 || verse.size() < n || what > n) {
            return -1;
        }
        BigInteger most = BigInteger.ZERO;
        int first = -1;
        int second = -1;
        for (int i = 0; i < verse.size(); i++) {
            for (int j = n == 1 ? i : i + 1; j < (n == 1 ? i + 1 : verse.size()); j++) {
                long[] told = verse.stream().mapToLong(v -> v).toArray();
                told[i] = -1;
                told[j] = -1;
                BigInteger many = rowsTo(told.length, told);
                if (many.compareTo(most) > 0) {
                    most = many;
                    first = i;
                    second = j;
                }
            }
        }
        return what == 0 ? most.longValue() : what == 1 ? first : second;
    }

    private List<Fact> fitting(int step, int tray) {
        needBar(Math.floorDiv(step, 2));
        needTray(tray);
        needFew();
        for (long n : trays[tray]) {
            needArgument(n >= 0 && n / 2 < standsOf());
        }
        List<Fact> facts = new ArrayList<>();
        for (int c = 0; c < bars(); c++) {
            for (int not = 0; not < 2; not++) {
                for (int p = 0; p < now.text.bars.get(c).places; p++) {
                    Fact f = new Fact(c, not == 1, p);
                    if (c != step / 2 && Arrays.stream(trays[tray]).allMatch(n -> f.in(decode((int) (n / 2))) == (n % 2 == 1))) {
                        facts.add(f);
                    }
                }
            }
        }
        return facts;
    }

    int fits(int step, int tray, int k) {
        List<Fact> facts = fitting(step, tray);
        if (k == -1) {
            return facts.size();
        }
        if (k < 0 || k >= facts.size()) {
            return -1;
        }
        Fact f = facts.get(k);
        return 100 * f.bar + (f.not ? 10 : 0) + f.place;
    }

    int tries(int step, int tray, int what) {
        List<Fact> facts = fitting(step, tray);
        needArgument(what == 0 || what == 1);
        if (facts.size() < 2) {
            return -1;
        }
        int best = -1;
        int least = Integer.MAX_VALUE;
        for (int s = 0; s < standsOf(); s++) {
            int[] at = decode(s);
            int go = (int) facts.stream().filter(f -> f.in(at)).count();
            int left = Math.max(go, facts.size() - go);
            if (left < least) {
                best = s;
                least = left;
            }
        }
        return what == 0 ? best : least;
    }

    long rows(int n, boolean opening) {
        needArgument(n >= 0 && n <= 20);
        needFew();
        // nodes: a stand, and whether it was OPEN sometime
        Map<Integer, TreeMap<Integer, Integer>> ways = ways(Set.of());
        Map<List<Integer>, BigInteger> rows = new HashMap<>();
        rows.put(List.of(code(now.at), code(now.at) == openCode() ? 1 : 0), BigInteger.ONE);
        for (int i = 0; i < n; i++) {
            Map<List<Integer>, BigInteger> after = new HashMap<>();
            for (List<Integer> node : rows.keySet()) {
                for (int t : ways.get(node.get(0)).values()) {
                    after.merge(List.of(t, t == openCode() ? 1 : node.get(1)), rows.get(node), BigInteger::add);
                }
            }
            rows = after;
        }
        BigInteger all = BigInteger.ZERO;
        for (List<Integer> node : rows.keySet()) {
            all = !opening || node.get(1) == 1 ? all.add(rows.get(node)) : all;
        }
        return all.longValue();
    }

    int keys() {
        needFew();
        Map<Integer, TreeMap<Integer, Integer>> ways = ways(Set.of());
        int stands = standsOf();
        int open = openCode();
        boolean[] first = new boolean[stands];
        boolean[] other = new boolean[stands];
        first[open] = true;
        other[open] = true;
        for (int turns = 0; turns <= 60; turns++) {
            if (first[code(now.at)]) {
                return turns;
            }
            boolean[] nextFirst = new boolean[stands];
            boolean[] nextOther = new boolean[stands];
            for (int s = 0; s < stands; s++) {
                List<Integer> to = new ArrayList<>(ways.get(s).values());
                if (to.isEmpty()) {
                    to.add(s);
                }
                boolean[] was = other;
                boolean[] had = first;
                nextFirst[s] = s == open || to.stream().anyMatch(t -> was[t]);
                nextOther[s] = s == open || to.stream().allMatch(t -> had[t]);
            }
            first = nextFirst;
            other = nextOther;
        }
        return -1;
    }

    // ---- trays, images

    void tray(int tray, int sort, int many) {
        if (tray < 0 || tray > 3) {
            throw new NoSuchElementException();
        }
        needArgument(sort >= 0 && sort <= 3 && many >= 0 && many <= 40);
        trays[tray] = new long[many];
        sorts[tray] = sort;
    }

    long write(int tray, int place, long v) {
        needTray(tray);
        if (place < 0 || place >= trays[tray].length) {
            throw new IndexOutOfBoundsException();
        }
        int bits = 8 << sorts[tray];
        trays[tray][place] = v << (64 - bits) >> (64 - bits);
        return trays[tray][place];
    }

    int pour(int tray) {
        needTray(tray);
        needFew();
        List<Integer> verse = verseNow();
        int many = verse == null ? 0 : Math.min(verse.size(), trays[tray].length);
        for (int i = 0; i < many; i++) {
            trays[tray][i] = verse.get(i);
        }
        return many;
    }

    void image(int i) {
        if (i < 0 || i > 2) {
            throw new NoSuchElementException();
        }
        images[i] = now.copy();
    }

    void restore(int i) {
        if (i < 0 || i > 2) {
            throw new NoSuchElementException();
        }
        if (images[i] == null) {
            throw new IllegalStateException();
        }
        now = images[i].copy();
    }

    int count(int what) {
        return switch (what) {
            case 0 -> now.text.lines;
            case 1 -> bars();
            case 2 -> now.text.rules.size();
            case 3 -> now.text.nested;
            case 4 -> now.text.wear;
            case 5 -> standsOf();
            case 6 -> Arrays.stream(now.made).sum();
            case 7 -> tape.length();
            default -> -1;
        };
    }
}
