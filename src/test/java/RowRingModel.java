import java.util.ArrayDeque;
import java.util.ArrayList;
import java.util.Arrays;
import java.util.Comparator;
import java.util.HashMap;
import java.util.List;
import java.util.Map;
import java.util.stream.Collectors;
import java.util.stream.IntStream;

/**
 * The document once more, written for plainness and apart from the program: texts are read by descent,
 * sums and tests are trees, states are copied, what is asked is tried out.
 */
public final class RowRingModel {
    static final int NONE = -1;

    // ---- what is told ----

    static final class Pair {
        int temper;
        int breaks;
        final Map<Integer, Integer> minds = new HashMap<>();
        final List<Integer> near = new ArrayList<>();
    }

    static final class Smithy {
        int widest;
        int wear;
        final List<Pair> pairs = new ArrayList<>();
        final List<Integer> hurts = new ArrayList<>();

        int hurts(int pair, int saying) {
            return hurts.get(saying) + minds(pair, saying);
        }

        int minds(int pair, int saying) {
            return pairs.get(pair).minds.getOrDefault(saying, 0);
        }
    }

    interface Sum {
        long of(Smithy smithy, State state, int pair, int saying);
    }

    interface Test {
        boolean of(Smithy smithy, State state, int pair, int saying);
    }

    record Clause(Sum sum, Test test) {
    }

    record Note(int n, int pair, int wide) {
    }

    record Row(int day, int pair, int size) {
    }

    static final class State {
        int day;
        int rows;
        final int[] temper = new int[5];
        final int[] wide = new int[5];
        final int[] size = new int[5];
        final int[][] said = new int[5][6];

        State copy() {
            State s = new State();
            s.day = day;
            s.rows = rows;
            System.arraycopy(temper, 0, s.temper, 0, 5);
            System.arraycopy(wide, 0, s.wide, 0, 5);
            System.arraycopy(size, 0, s.size, 0, 5);
            for (int i = 0; i < 5; i++) {
                s.said[i] = said[i].clone();
            }
            return s;
        }
    }

    record Image(Smithy smithy, State state, int force, int x, List<Note> notes) {
    }

    static final class Fault extends RuntimeException {
        private static final long serialVersionUID = 1L;
        final int number;

        Fault(int place, int kind) {
            super(null, null, false, false);
            number = 1 + 8 * place + kind;
        }
    }

    // ---- reading ----

    static final class Text {
        final int[] bytes;
        int at;

        Text(int[] bytes) {
            this.bytes = bytes;
        }

        void blanks() {
            while (at < bytes.length && bytes[at] == 32) {
                at++;
            }
        }

        int here() {
            blanks();
            return at < bytes.length ? bytes[at] : -1;
        }

        String word() {
            blanks();
            StringBuilder b = new StringBuilder();
            for (int i = at; i < bytes.length && bytes[i] >= 'a' && bytes[i] <= 'z'; i++) {
                b.append((char) bytes[i]);
            }
            return b.toString();
        }

        boolean take(String word) {
            if (word().equals(word)) {
                at += word.length();
                return true;
            }
            return false;
        }

        boolean takeSign(char c) {
            if (here() == c) {
                at++;
                return true;
            }
            return false;
        }

        Fault cannotStand() {
            blanks();
            return new Fault(at, 0);
        }

        int number(int least, int most) {
            blanks();
            int start = at;
            StringBuilder b = new StringBuilder();
            while (at < bytes.length && bytes[at] >= '0' && bytes[at] <= '9') {
                b.append((char) bytes[at++]);
            }
            if (b.length() == 0) {
                throw new Fault(start, 0);
            }
            if (b.length() > 5) {
                throw new Fault(start, 1);
            }
            int n = Integer.parseInt(b.toString());
            if (n < least || n > most) {
                throw new Fault(start, 1);
            }
            return n;
        }
    }

    static Smithy readSmithy(Text t) {
        Smithy s = new Smithy();
        int clauses = 0;
        do {
            String word = t.word();
            if (!List.of("smith", "pair", "saying", "minds", "near").contains(word)) {
                throw t.cannotStand();
            }
            boolean bad = clauses == 40
                || word.equals("smith") && clauses > 0
                || !word.equals("smith") && clauses == 0
                || word.equals("pair") && s.pairs.size() == 5
                || word.equals("saying") && s.hurts.size() == 6;
            if (bad) {
                throw new Fault(t.at, 4);
            }
            t.take(word);
            clauses++;
            readSmithyClause(t, s, word);
        } while (t.takeSign(';'));
        if (t.here() != -1) {
            throw t.cannotStand();
        }
        return s;
    }

    private static void readSmithyClause(Text t, Smithy s, String word) {
        switch (word) {
            case "smith" -> {
                s.widest = t.number(1, 99);
                s.wear = t.number(1, 9);
            }
            case "pair" -> {
                Pair p = new Pair();
                p.temper = t.number(0, 99);
                p.breaks = t.number(1, 99);
                s.pairs.add(p);
            }
            case "saying" -> s.hurts.add(t.number(0, 9));
            case "minds" -> {
                int pair = t.number(0, s.pairs.size() - 1);
                int saying = t.number(0, s.hurts.size() - 1);
                s.pairs.get(pair).minds.put(saying, t.number(0, 20));
            }
            default -> {
                int a = t.number(0, s.pairs.size() - 1);
                t.blanks();
                int at = t.at;
                int b = t.number(0, s.pairs.size() - 1);
                if (a == b) {
                    throw new Fault(at, 1);
                }
                if (!s.pairs.get(a).near.contains(b)) {
                    s.pairs.get(a).near.add(b);
                    s.pairs.get(b).near.add(a);
                }
            }
        }
    }

    static final class RuleText {
        final Text t;
        int parts;

        RuleText(Text t) {
            this.t = t;
        }

        List<Clause> read() {
            List<Clause> clauses = new ArrayList<>();
            do {
                if (!t.word().equals("say")) {
                    throw t.cannotStand();
                }
                if (clauses.size() == 12) {
                    throw new Fault(t.at, 4);
                }
                t.take("say");
                Sum sum = sum();
                clauses.add(new Clause(sum, t.take("if") ? test(0) : null));
            } while (t.takeSign(';'));
            if (t.here() != -1) {
                throw t.cannotStand();
            }
            return clauses;
        }

        Test test(int deep) {
            Test all = part(deep);
            while (t.take("or")) {
                Test a = all;
                Test b = part(deep);
                all = (m, s, p, w) -> a.of(m, s, p, w) || b.of(m, s, p, w);
            }
            return all;
        }

        Test part(int deep) {
            Test all = fact(deep);
            while (t.take("and")) {
                Test a = all;
                Test b = fact(deep);
                all = (m, s, p, w) -> a.of(m, s, p, w) && b.of(m, s, p, w);
            }
            return all;
        }

        Test fact(int deep) {
            if (t.word().equals("not") || t.here() == '[') {
                if (deep == 10) {
                    throw new Fault(t.at, 2);
                }
            }
            if (t.take("not")) {
                Test a = fact(deep + 1);
                return (m, s, p, w) -> !a.of(m, s, p, w);
            }
            if (t.takeSign('[')) {
                Test a = test(deep + 1);
                if (!t.takeSign(']')) {
                    throw t.cannotStand();
                }
                return a;
            }
            Sum a = sum();
            int c = t.here();
            if (c != '<' && c != '=' && c != '>') {
                throw t.cannotStand();
            }
            part();
            t.at++;
            boolean same = c != '=' && t.at < t.bytes.length && t.bytes[t.at] == '=';
            if (same) {
                t.at++;
            }
            Sum b = sum();
            return (m, s, p, w) -> {
                int by = Long.compare(a.of(m, s, p, w), b.of(m, s, p, w));
                return (same || c == '=') && by == 0 || c == '<' && by < 0 || c == '>' && by > 0;
            };
        }

        void part() {
            parts++;
            if (parts > 60) {
                throw new Fault(t.at, 3);
            }
        }

        Sum sum() {
            Sum all = term();
            while (t.here() == '+' || t.here() == '-') {
                boolean plus = t.here() == '+';
                t.at++;
                Sum a = all;
                Sum b = term();
                all = (m, s, p, w) -> a.of(m, s, p, w) + (plus ? 1 : -1) * b.of(m, s, p, w);
            }
            return all;
        }

        Sum term() {
            Sum all = value();
            while (t.here() == '*' || t.here() == '/' || t.here() == '%') {
                int c = t.here();
                t.at++;
                Sum a = all;
                Sum b = value();
                all = (m, s, p, w) -> {
                    long x = a.of(m, s, p, w);
                    long y = b.of(m, s, p, w);
                    if (c == '*') {
                        return x * y;
                    }
                    return y == 0 ? 0 : c == '/' ? x / y : x % y;
                };
            }
            return all;
        }

        Sum value() {
            t.blanks();
            int start = t.at;
            Sum sum;
            if (t.here() >= '0' && t.here() <= '9') {
                int n = t.number(0, 99999);
                sum = (m, s, p, w) -> n;
            } else {
                String word = t.word();
                sum = wordSum(word);
                if (sum == null) {
                    throw t.cannotStand();
                }
                t.take(word);
            }
            int stop = t.at;
            t.at = start;
            part();
            t.at = stop;
            return sum;
        }

        private static Sum wordSum(String word) {
            return switch (word) {
                case "pair" -> (m, s, p, w) -> p;
                case "saying" -> (m, s, p, w) -> w;
                case "temper" -> (m, s, p, w) -> s.temper[p];
                case "breaks" -> (m, s, p, w) -> m.pairs.get(p).breaks;
                case "hurt" -> (m, s, p, w) -> m.hurts.get(w);
                case "minds" -> (m, s, p, w) -> m.minds(p, w);
                case "said" -> (m, s, p, w) -> s.said[p][w];
                case "near" -> (m, s, p, w) ->
                    m.pairs.get(p).near.stream().filter(o -> s.wide[o] == 0).count();
                case "bands" -> (m, s, p, w) ->
                    IntStream.range(0, m.pairs.size()).filter(o -> s.wide[o] > 0).count();
                case "rows" -> (m, s, p, w) -> s.rows;
                case "day" -> (m, s, p, w) -> s.day;
                default -> null;
            };
        }
    }

    // ---- the object ----

    private final List<Integer> tape = new ArrayList<>();
    private Smithy smithy;
    private State state = new State();
    private final List<List<Clause>> rules = new ArrayList<>();
    private int force = NONE;
    private int x;
    private List<Note> notes = new ArrayList<>();
    private final ArrayDeque<State> undos = new ArrayDeque<>();
    private final Image[] images = new Image[4];

    private int pairs() {
        return smithy == null ? 0 : smithy.pairs.size();
    }

    private int sayings() {
        return smithy == null ? 0 : smithy.hurts.size();
    }

    private boolean isPair(int pair) {
        return pair >= 0 && pair < pairs();
    }

    private boolean isSaying(int saying) {
        return saying >= 0 && saying < sayings();
    }

    private boolean isFree(int pair) {
        return isPair(pair) && state.wide[pair] == 0;
    }

    private static boolean in(int n, int least, int most) {
        return n >= least && n <= most;
    }

    private void act() {
        undos.addLast(state.copy());
        if (undos.size() > 20) {
            undos.removeFirst();
        }
    }

    private static int bits(List<Row> rows) {
        int bits = 0;
        for (Row r : rows) {
            bits |= 1 << r.pair;
        }
        return bits;
    }

    /** How days may go otherwise. */
    private static final class Days {
        List<Clause> rule;
        List<Integer> struck = List.of();
        int home = NONE;
    }

    private Days plainDays() {
        Days d = new Days();
        d.rule = force == NONE ? null : rules.get(force);
        return d;
    }

    private List<Row> rowsAmong(State s, List<Integer> those) {
        List<Row> rows = new ArrayList<>();
        for (int p : those.stream().sorted().collect(Collectors.toList())) {
            if (s.temper[p] >= smithy.pairs.get(p).breaks) {
                rows.add(new Row(s.day, p, s.temper[p]));
                s.rows++;
                s.size[p] = s.temper[p];
                s.wide[p] = s.temper[p] > smithy.widest ? smithy.widest : s.temper[p];
                s.temper[p] = 0;
            }
        }
        return rows;
    }

    private List<Row> says(State s, int pair, int saying, int home) {
        List<Integer> those = new ArrayList<>();
        s.temper[pair] = Math.min(999, s.temper[pair] + smithy.hurts(pair, saying));
        s.said[pair][saying]++;
        those.add(pair);
        for (int o : smithy.pairs.get(pair).near) {
            if (s.wide[o] == 0 && o != home) {
                s.temper[o] = Math.min(999, s.temper[o] + smithy.hurts.get(saying) / 2);
                those.add(o);
            }
        }
        return rowsAmong(s, those);
    }

    private List<Row> opensDoor(State s) {
        List<Integer> those = new ArrayList<>();
        for (int p = 0; p < pairs(); p++) {
            if (s.wide[p] == 0) {
                s.temper[p] = Math.min(999, s.temper[p] + 3);
                those.add(p);
            }
        }
        return rowsAmong(s, those);
    }

    private long worth(State s, Days d, int pair, int saying) {
        if (d.rule == null) {
            return smithy.hurts(pair, saying);
        }
        for (Clause c : d.rule) {
            if (c.test == null || c.test.of(smithy, s, pair, saying)) {
                return c.sum.of(smithy, s, pair, saying);
            }
        }
        return 0;
    }

    private List<Row> goDay(State s, Days d) {
        List<Row> rows = new ArrayList<>();
        for (int p = 0; p < pairs(); p++) {
            if (s.wide[p] > 0 || p == d.home) {
                continue;
            }
            List<Integer> can = new ArrayList<>();
            for (int w = 0; w < sayings(); w++) {
                if (!d.struck.contains(w) && worth(s, d, p, w) > 0) {
                    can.add(w);
                }
            }
            int pair = p;
            // The stream's min keeps the first of several, so the least saying.
            List<Integer> best = can.stream()
                .sorted(Comparator.comparing((Integer w) -> worth(s, d, pair, w)).reversed()
                    .thenComparing(w -> w))
                .limit(1).collect(Collectors.toList());
            if (!best.isEmpty()) {
                rows.addAll(says(s, p, best.get(0), d.home));
            }
        }
        if (s.day % 10 == 9) {
            for (int p = 0; p < pairs(); p++) {
                if (s.wide[p] > 0) {
                    s.wide[p] -= smithy.wear;
                    if (s.wide[p] <= 0) {
                        s.wide[p] = 0;
                        s.size[p] = 0;
                    }
                }
            }
        }
        for (int p = 0; p < pairs(); p++) {
            if (s.temper[p] > 0) {
                s.temper[p]--;
            }
        }
        s.day++;
        return rows;
    }

    private List<Row> goDays(State s, Days d, int n) {
        List<Row> rows = new ArrayList<>();
        for (int i = 0; i < n; i++) {
            rows.addAll(goDay(s, d));
        }
        return rows;
    }

    private State begin() {
        State s = new State();
        for (int p = 0; p < pairs(); p++) {
            s.temper[p] = smithy.pairs.get(p).temper;
        }
        return s;
    }

    // ---- the face ----

    public int feed(int a, int b, int c, int d, int e) {
        if (tape.size() > 380) {
            return NONE;
        }
        for (int n : new int[] {a, b, c, d, e}) {
            tape.add(n >>> 24);
            tape.add(n >>> 16 & 255);
            tape.add(n >>> 8 & 255);
            tape.add(n & 255);
        }
        return tape.size();
    }

    public int end(int n) {
        if (n < 0 || n > tape.size()) {
            return NONE;
        }
        while (tape.size() > n) {
            tape.remove(tape.size() - 1);
        }
        return n;
    }

    private Text text() {
        return new Text(tape.stream().mapToInt(i -> i).toArray());
    }

    public int smith() {
        Text told = text();
        tape.clear();
        try {
            smithy = readSmithy(told);
        } catch (Fault f) {
            return -2 - f.number;
        }
        state = begin();
        notes = new ArrayList<>();
        undos.clear();
        return pairs();
    }

    public int rule() {
        if (rules.size() == 6) {
            return NONE;
        }
        Text told = text();
        tape.clear();
        try {
            rules.add(new RuleText(told).read());
        } catch (Fault f) {
            return -2 - f.number;
        }
        return rules.size() - 1;
    }

    public int force(int rule) {
        if (!in(rule, NONE, rules.size() - 1)) {
            return -2;
        }
        int was = force;
        force = rule;
        return was;
    }

    public int pair(int pair, int what) {
        if (!isPair(pair)) {
            return NONE;
        }
        return switch (what) {
            case 0 -> state.temper[pair];
            case 1 -> smithy.pairs.get(pair).breaks;
            case 2 -> state.wide[pair];
            case 3 -> state.size[pair];
            case 4 -> smithy.pairs.get(pair).near.stream().mapToInt(o -> 1 << o).sum();
            default -> NONE;
        };
    }

    public int saying(int pair, int saying, int what) {
        if (!isPair(pair) || !isSaying(saying)) {
            return NONE;
        }
        return what == 0 ? smithy.hurts(pair, saying) : what == 1 ? state.said[pair][saying] : NONE;
    }

    public int day() {
        if (smithy == null || state.day == 999) {
            return NONE;
        }
        act();
        return bits(goDay(state, plainDays()));
    }

    public int say(int pair, int saying) {
        if (!isFree(pair) || !isSaying(saying)) {
            return NONE;
        }
        act();
        return bits(says(state, pair, saying, NONE));
    }

    public int soothe(int pair, int much) {
        if (!isPair(pair) || !in(much, 1, 20) || state.temper[pair] < much) {
            return NONE;
        }
        act();
        state.temper[pair] -= much;
        return state.temper[pair];
    }

    public int door() {
        if (IntStream.range(0, pairs()).noneMatch(this::isFree)) {
            return NONE;
        }
        act();
        return bits(opensDoor(state));
    }

    public int undo() {
        if (undos.isEmpty()) {
            return NONE;
        }
        state = undos.removeLast();
        return undos.size();
    }

    public int ahead(int pair, int n, int what) {
        if (smithy == null || !in(n, 0, 100) || !in(what, 0, 2) || what < 2 && !isPair(pair)) {
            return NONE;
        }
        State s = state.copy();
        goDays(s, plainDays(), n);
        return what == 0 ? s.temper[pair] : what == 1 ? s.wide[pair] : s.rows;
    }

    public int quarrel(int pair, int what) {
        if (!isFree(pair) || !in(what, 0, 1)) {
            return NONE;
        }
        for (Row r : goDays(state.copy(), plainDays(), 200)) {
            if (r.pair == pair) {
                return what == 0 ? r.day : r.size;
            }
        }
        return -2;
    }

    public int bring(int pair, int size, int what) {
        if (!isFree(pair) || !in(size, 1, 120) || !in(what, 0, 1)) {
            return NONE;
        }
        // Tempers reached by so many sayings without a row, each with the first row of sayings to it.
        Map<Integer, List<Integer>> reached = new HashMap<>();
        reached.put(state.temper[pair], List.of());
        for (int many = 1; many <= 130; many++) {
            Map<Integer, List<Integer>> next = new HashMap<>();
            List<Integer> found = null;
            for (Map.Entry<Integer, List<Integer>> e : reached.entrySet()) {
                for (int w = 0; w < sayings(); w++) {
                    List<Integer> said = new ArrayList<>(e.getValue());
                    said.add(w);
                    int temper = Math.min(999, e.getKey() + smithy.hurts(pair, w));
                    if (temper < smithy.pairs.get(pair).breaks) {
                        next.merge(temper, said, RowRingModel::first);
                    } else if (temper == size) {
                        found = found == null ? said : first(found, said);
                    }
                }
            }
            if (found != null) {
                return what == 0 ? many : found.get(0);
            }
            reached = next;
        }
        return -2;
    }

    private static List<Integer> first(List<Integer> a, List<Integer> b) {
        for (int i = 0; i < a.size(); i++) {
            int by = Integer.compare(a.get(i), b.get(i));
            if (by != 0) {
                return by < 0 ? a : b;
            }
        }
        return a;
    }

    public int smooth(int pair) {
        if (!isPair(pair) || state.wide[pair] == 0) {
            return NONE;
        }
        State s = state.copy();
        while (s.wide[pair] > 0) {
            goDay(s, plainDays());
        }
        return s.day - 1;
    }

    public int strike(int n, int what) {
        if (smithy == null || !in(n, 1, 30) || !in(what, 0, 1)) {
            return NONE;
        }
        int best = NONE;
        for (int set = 0; set < 1 << sayings(); set++) {
            int these = set;
            if (best != NONE && Integer.bitCount(set) >= Integer.bitCount(best)) {
                continue;
            }
            Days d = plainDays();
            d.struck = IntStream.range(0, 6).filter(w -> (these >> w & 1) == 1).boxed()
                .collect(Collectors.toList());
            if (goDays(state.copy(), d, n).isEmpty()) {
                best = set;
            }
        }
        return what == 0 ? Integer.bitCount(best) : best;
    }

    public int home(int n, int what) {
        if (smithy == null || !in(n, 1, 30) || !in(what, 0, 1)) {
            return -2;
        }
        int best = NONE;
        int most = -1;
        for (int p = NONE; p < pairs(); p++) {
            Days d = plainDays();
            d.home = p;
            int rows = goDays(state.copy(), d, n).size();
            if (rows > most) {
                best = p;
                most = rows;
            }
        }
        return what == 0 ? best : most;
    }

    public int benches(int what) {
        if (smithy == null || !in(what, NONE, 4)) {
            return -3;
        }
        if (what >= pairs()) {
            return -2;
        }
        for (int many = 0; many <= 5; many++) {
            int[] row = new int[5];
            if (seat(row, 0, many)) {
                return what == NONE ? many : row[what];
            }
        }
        throw new IllegalStateException();
    }

    private boolean seat(int[] row, int pair, int many) {
        if (pair == pairs()) {
            return true;
        }
        for (int b = 0; b < many; b++) {
            int bench = b;
            row[pair] = b;
            boolean fine = smithy.pairs.get(pair).near.stream().noneMatch(o -> o < pair && row[o] == bench);
            if (fine && seat(row, pair + 1, many)) {
                return true;
            }
        }
        return false;
    }

    public int gold(int much, int pair) {
        if (!in(much, 0, 9999) || !isPair(pair)) {
            return NONE;
        }
        int all = Arrays.stream(state.wide).sum();
        if (all == 0) {
            return 0;
        }
        int[] part = new int[5];
        int left = much;
        for (int p = 0; p < 5; p++) {
            part[p] = much * state.wide[p] / all;
            left -= part[p];
        }
        List<Integer> order = IntStream.range(0, 5).boxed()
            .filter(p -> state.wide[p] > 0)
            .sorted(Comparator.comparing((Integer p) -> -(much * state.wide[p] % all)).thenComparing(p -> p))
            .collect(Collectors.toList());
        for (int i = 0; i < left; i++) {
            part[order.get(i)]++;
        }
        return part[pair];
    }

    public int heard(int pair, int saying, int what) {
        if (!isFree(pair) || !isSaying(saying) || !in(what, 0, 1)) {
            return NONE;
        }
        List<Row> rows = says(state.copy(), pair, saying, NONE);
        return what == 0 ? rows.size() : largest(rows).map(r -> r.pair).orElse(-2);
    }

    private static java.util.Optional<Row> largest(List<Row> rows) {
        return rows.stream().min(Comparator.comparing((Row r) -> -r.size)
            .thenComparing(r -> r.day).thenComparing(r -> r.pair));
    }

    public int game(int pair, int n, int what) {
        if (!isFree(pair) || !in(n, 1, 4) || !in(what, 0, 1)) {
            return NONE;
        }
        int best = -1;
        int first = -1;
        int[] next = smithsTempers(pair, state.temper[pair]);
        for (int i = 0; i < next.length; i++) {
            int v = played(pair, next[i], 1, n);
            if (v > best) {
                best = v;
                first = i;
            }
        }
        return what == 0 ? best : first;
    }

    private int[] smithsTempers(int pair, int temper) {
        int[] next = new int[sayings() + 1];
        for (int w = 0; w < sayings(); w++) {
            next[w] = Math.min(999, temper + smithy.hurts(pair, w));
        }
        next[sayings()] = Math.min(999, temper + 3);
        return next;
    }

    private int played(int pair, int temper, int done, int n) {
        if (done == n || temper >= smithy.pairs.get(pair).breaks) {
            return temper;
        }
        if (done % 2 == 0) {
            return Arrays.stream(smithsTempers(pair, temper)).map(t -> played(pair, t, done + 1, n)).max()
                .getAsInt();
        }
        return IntStream.of(temper, Math.max(0, temper - 5)).map(t -> played(pair, t, done + 1, n)).min()
            .getAsInt();
    }

    public int spark(int pair) {
        if (!isFree(pair)) {
            return NONE;
        }
        int fewest = -2;
        for (int size = 1; size <= 999; size++) {
            fewest = sparkOf(pair, size, fewest);
        }
        return fewest;
    }

    private int sparkOf(int pair, int size, int fewest) {
        int breaks = smithy.pairs.get(pair).breaks;
        if (size < breaks) {
            return fewest;
        }
        // The same saying again and again is as fast as any row of sayings.
        for (int w = 0; w < sayings(); w++) {
            int temper = state.temper[pair];
            int many = 0;
            while (many < 100 && (many == 0 || temper < breaks)) {
                temper = Math.min(999, temper + smithy.hurts(pair, w));
                many++;
            }
            if (temper >= breaks && temper == size && (fewest == -2 || many < fewest)) {
                fewest = many;
            }
        }
        return fewest;
    }

    public int calm(int n, int what) {
        if (smithy == null || !in(n, 1, 30) || !in(what, 0, 1)) {
            return -2;
        }
        int best = NONE;
        int fewest = Integer.MAX_VALUE;
        for (int p = NONE; p < pairs(); p++) {
            State s = state.copy();
            if (p != NONE) {
                s.temper[p] = 0;
            }
            int rows = goDays(s, plainDays(), n).size();
            if (rows < fewest) {
                best = p;
                fewest = rows;
            }
        }
        return what == 0 ? best : fewest;
    }

    public int largest(int n, int what) {
        if (smithy == null || !in(n, 1, 60) || !in(what, 0, 2)) {
            return NONE;
        }
        return largest(goDays(state.copy(), plainDays(), n))
            .map(r -> what == 0 ? r.pair : what == 1 ? r.size : r.day).orElse(-2);
    }

    public int note(int n, int pair, int wide) {
        if (n == NONE) {
            notes.clear();
            return 0;
        }
        if (!in(n, 0, 60) || !isPair(pair) || !in(wide, 0, 99) || notes.size() == 10) {
            return -2;
        }
        notes.add(new Note(n, pair, wide));
        return notes.size();
    }

    private List<Integer> fitting() {
        List<Integer> fit = new ArrayList<>();
        for (int r = NONE; r < rules.size(); r++) {
            int rule = r;
            if (notes.stream().allMatch(o -> wideBehind(rule, o.n)[o.pair] == o.wide)) {
                fit.add(r);
            }
        }
        return fit;
    }

    private int[] wideBehind(int rule, int n) {
        Days d = new Days();
        d.rule = rule == NONE ? null : rules.get(rule);
        State s = begin();
        // DAY 0 is the 0-th; behind it is when it has gone by.
        goDays(s, d, n + 1);
        return s.wide;
    }

    public int ruled(int what) {
        if (smithy == null || !in(what, 0, 1)) {
            return -3;
        }
        List<Integer> fit = fitting();
        return what == 0 ? fit.size() : fit.isEmpty() ? -2 : fit.get(0);
    }

    public int look(int n, int what) {
        if (smithy == null || !in(n, 0, 60) || !in(what, 0, 1)) {
            return NONE;
        }
        List<Integer> fit = fitting();
        if (fit.isEmpty() || pairs() == 0) {
            return -2;
        }
        int best = -1;
        long fewest = Long.MAX_VALUE;
        for (int p = 0; p < pairs(); p++) {
            int pair = p;
            long alike = fit.stream()
                .collect(Collectors.groupingBy(r -> wideBehind(r, n)[pair], Collectors.counting()))
                .values().stream().mapToLong(v -> v).max().getAsLong();
            if (alike < fewest) {
                best = p;
                fewest = alike;
            }
        }
        return what == 0 ? best : (int) fewest;
    }

    public int seed(int to) {
        if (to < 0) {
            return NONE;
        }
        int was = x;
        x = to;
        return was;
    }

    public int doors(int m, int n, int p, int what) {
        if (smithy == null || !in(m, 1, 10) || !in(n, 1, 60) || !in(p, 0, 100) || !in(what, 0, 1)) {
            return NONE;
        }
        long draw = x;
        int rows = 0;
        int wide = 0;
        for (int i = 0; i < m; i++) {
            State s = state.copy();
            for (int j = 0; j < n; j++) {
                draw = (draw * 1103515245L + 12345L) & 2147483647L;
                if ((draw >> 16) % 100 < p) {
                    rows += opensDoor(s).size();
                }
                rows += goDay(s, plainDays()).size();
            }
            wide += Arrays.stream(s.wide).sum();
        }
        return what == 0 ? rows : wide;
    }

    public int count(int what) {
        return switch (what) {
            case 0 -> smithy == null ? 0 : smithy.widest;
            case 1 -> smithy == null ? 0 : smithy.wear;
            case 2 -> pairs();
            case 3 -> sayings();
            case 4 -> rules.size();
            case 5 -> force;
            case 6 -> state.day;
            case 7 -> IntStream.range(0, 5).filter(p -> state.wide[p] > 0).map(p -> 1 << p).sum();
            case 8 -> state.rows;
            case 9 -> Arrays.stream(state.wide).sum();
            case 10 -> notes.size();
            case 11 -> undos.size();
            case 12 -> x;
            case 13 -> tape.size();
            default -> NONE;
        };
    }

    public int image(int k) {
        if (!in(k, 0, 3)) {
            return NONE;
        }
        images[k] = new Image(smithy, state.copy(), force, x, List.copyOf(notes));
        return state.day;
    }

    public int back(int k) {
        if (!in(k, 0, 3) || images[k] == null) {
            return NONE;
        }
        Image i = images[k];
        smithy = i.smithy;
        state = i.state.copy();
        force = i.force;
        x = i.x;
        notes = new ArrayList<>(i.notes);
        undos.clear();
        return state.day;
    }
}
