import java.io.ByteArrayOutputStream;
import java.nio.charset.StandardCharsets;
import java.util.ArrayList;
import java.util.Arrays;
import java.util.List;
import java.util.NoSuchElementException;

/**
 * The document once more, as plainly as can be and without regard to cost: fractions of any size, systems of
 * equations solved by elimination, rows of rain walked forwards. It has the face of WellPumps, so that a test can
 * ask both the same.
 */
final class Model {
    static final int NONE = -1;
    private static final int[][] WEIGHTS = {{4, 5}, {3, 4}, {2, 3}, {3, 5}, {1, 2}, {2, 5}, {1, 3}, {1, 4}, {1, 5}};

    private record Rule(int price, int least, int share, int fine, int seen) {
    }

    private record Farm(int[] brings, int cost, int draw) {
    }

    private record Break(int year, int farm, int n) {
    }

    private record Beside(int top, int level, int want) {
    }

    private record Outcome(int[] got, int low, boolean leaked) {
    }

    /** What a farm wants. */
    private interface Wants {
        int of(int farm, int level, boolean broken);
    }

    private byte[] tape = new byte[0];
    private int fault = NONE;
    private Model image = null;

    private int top = 4;
    private int leak = NONE;
    private int[] w = {0, 1, 0, 0};
    private int p = 1;
    private int q = 2;
    private List<Farm> farms = new ArrayList<>();
    private List<Rule> rules = new ArrayList<>(List.of(new Rule(0, 0, 3, 0, 0)));
    private int inForce = 0;
    private List<String> draws = new ArrayList<>();
    private List<Break> breaks = new ArrayList<>();
    private byte[] row = new byte[0];
    private Beside beside = null;

    private void become(Model o) {
        top = o.top;
        leak = o.leak;
        w = o.w.clone();
        p = o.p;
        q = o.q;
        farms = new ArrayList<>(o.farms);
        rules = new ArrayList<>(o.rules);
        inForce = o.inForce;
        draws = new ArrayList<>(o.draws);
        breaks = new ArrayList<>(o.breaks);
        row = o.row;
        beside = o.beside;
    }

    private static void index(boolean right) {
        if (!right) {
            throw new IndexOutOfBoundsException();
        }
    }

    private static void argument(boolean right) {
        if (!right) {
            throw new IllegalArgumentException();
        }
    }

    private static boolean in(int number, int least, int most) {
        return least <= number && number <= most;
    }

    private void farmAndLevel(int farm, int level) {
        index(in(farm, 0, farms.size() - 1) && in(level, 0, top));
    }

    private void level(int level) {
        index(in(level, 0, top));
    }

    public int feed(int a, int b, int c, int d, int e) {
        if (tape.length + 20 > 400) {
            return NONE;
        }
        ByteArrayOutputStream out = new ByteArrayOutputStream();
        out.writeBytes(tape);
        for (int n : new int[] {a, b, c, d, e}) {
            out.writeBytes(new byte[] {(byte) (n >>> 24), (byte) (n >>> 16), (byte) (n >>> 8), (byte) n});
        }
        tape = out.toByteArray();
        return tape.length;
    }

    public boolean end(int n) {
        if (n < 0 || n > tape.length) {
            return false;
        }
        tape = Arrays.copyOf(tape, n);
        return true;
    }

    public void well(int top, int leak) {
        argument(in(top, 1, 7) && in(leak, -1, 7));
        this.top = top;
        this.leak = leak;
    }

    public void rain(int w0, int w1, int w2, int w3) {
        argument(in(w0, 0, 4) && in(w1, 0, 4) && in(w2, 0, 4) && in(w3, 0, 4) && in(w0 + w1 + w2 + w3, 1, 4));
        w = new int[] {w0, w1, w2, w3};
    }

    public void years(int p, int q) {
        argument(0 < p && p < q && q <= 5);
        this.p = p;
        this.q = q;
    }

    public int farm(int one, int two, int three, int cost) {
        argument(in(one, 0, 99) && in(two, 0, 99) && in(three, 0, 99) && in(cost, 0, 9));
        if (farms.size() == 3) {
            throw new UnsupportedOperationException();
        }
        farms.add(new Farm(new int[] {0, one, two, three}, cost, NONE));
        return farms.size() - 1;
    }

    public int rule(int price, int least, int share, int fine, int seen) {
        argument(in(price, 0, 9) && in(least, 0, 7) && in(share, 0, 3) && in(fine, 0, 99) && in(seen, 0, 4));
        if (rules.size() == 5) {
            throw new UnsupportedOperationException();
        }
        rules.add(new Rule(price, least, share, fine, seen));
        return rules.size() - 1;
    }

    public boolean force(int rule) {
        index(in(rule, 0, rules.size() - 1));
        boolean other = rule != inForce;
        inForce = rule;
        return other;
    }

    public int draw() {
        String text = new String(tape, StandardCharsets.ISO_8859_1);
        tape = new byte[0];
        fault = Texts.fault(text);
        argument(fault == NONE);
        if (draws.size() == 6) {
            throw new UnsupportedOperationException();
        }
        draws.add(text);
        return draws.size() - 1;
    }

    public int fault() {
        return fault;
    }

    public boolean by(int farm, int draw) {
        index(in(farm, 0, farms.size() - 1) && in(draw, -1, draws.size() - 1));
        Farm old = farms.get(farm);
        farms.set(farm, new Farm(old.brings(), old.cost(), draw));
        return old.draw() != draw;
    }

    public int broken(int year, int farm, int n) {
        index(in(farm, 0, farms.size() - 1));
        argument(in(year, 0, 99) && in(n, 0, 3));
        if (breaks.size() == 6) {
            return NONE;
        }
        breaks.add(new Break(year, farm, n));
        return breaks.size();
    }

    public int row() {
        byte[] bytes = tape;
        tape = new byte[0];
        for (byte b : bytes) {
            argument(in(b, 0, 3));
        }
        row = bytes;
        return row.length;
    }

    public void beside(int top, int level, int want) {
        argument(in(top, 1, 7) && in(level, 0, top) && in(want, 0, 3));
        beside = new Beside(top, level, want);
    }

    public void image() {
        image = new Model();
        image.become(this);
    }

    public boolean back() {
        if (image != null) {
            become(image);
        }
        return image != null;
    }

    public int count(int what) {
        int none = 0;
        for (int level = 0; level <= top; level++) {
            boolean nobody = true;
            for (int farm = 0; farm < farms.size(); farm++) {
                nobody &= told(farm, level, false) == 0;
            }
            none += nobody ? 1 : 0;
        }
        int[] all = {farms.size(), draws.size(), rules.size(), inForce, breaks.size(), row.length, n(), top, none};
        return in(what, 0, 8) ? all[what] : NONE;
    }

    private int n() {
        return w[0] + w[1] + w[2] + w[3];
    }

    // ---- one year ----

    private int told(int farm, int level, boolean broken) {
        return by(farms.get(farm).draw(), farm, level, broken);
    }

    private int by(int draw, int farm, int level, boolean broken) {
        return draw == NONE ? 0 : Texts.tells(draws.get(draw), top, farm, level, broken);
    }

    private int[] wanted(Wants wants, int level, boolean broken) {
        int[] want = new int[farms.size()];
        for (int farm = 0; farm < want.length; farm++) {
            want[farm] = wants.of(farm, level, broken);
        }
        return want;
    }

    private Outcome pump(int level, int[] want, Rule rule) {
        int[] got = new int[want.length];
        int all = 0;
        for (int farm = 0; farm < want.length; farm++) {
            got[farm] = Math.min(want[farm], Math.max(0, level - rule.least()) - all);
            all += got[farm];
        }
        int low = level - all;
        boolean leaked = leak >= 0 && low > leak;
        return new Outcome(got, leaked ? low - 1 : low, leaked);
    }

    private Frac gain(int farm, int level, int got, Rule rule, int cost) {
        int fined = Math.max(0, got - rule.share());
        return plain(farm, level, got, cost).less(Frac.of((long) got * rule.price(), 1))
                .less(Frac.of((long) fined * rule.fine() * rule.seen(), 4));
    }

    private Frac plain(int farm, int level, int got, int cost) {
        return Frac.of(farms.get(farm).brings()[got] - got * cost * (top - level), 1);
    }

    private Frac gain(int farm, int level, int got, Rule rule) {
        return gain(farm, level, got, rule, farms.get(farm).cost());
    }

    private Rule ruleNow() {
        return rules.get(inForce);
    }

    private Frac weight() {
        return Frac.of(p, q);
    }

    /** What is awaited, of values by level. */
    private Frac awaited(Frac[] values, int from, int low) {
        Frac sum = Frac.ZERO;
        for (int rain = 0; rain < 4; rain++) {
            sum = sum.plus(Frac.of(w[rain], n()).times(values[from + Math.min(top, low + rain)]));
        }
        return sum;
    }

    public int wants(int farm, int level, boolean broken, boolean got) {
        farmAndLevel(farm, level);
        int[] want = wanted(this::told, level, broken);
        return got ? pump(level, want, ruleNow()).got()[farm] : want[farm];
    }

    public int gains(int farm, int level, boolean broken) {
        farmAndLevel(farm, level);
        int got = pump(level, wanted(this::told, level, broken), ruleNow()).got()[farm];
        return (int) gain(farm, level, got, ruleNow()).times(Frac.of(4, 1)).floor();
    }

    public int next(int level, boolean broken, int to) {
        level(level);
        level(to);
        Frac[] there = new Frac[top + 1];
        Arrays.fill(there, Frac.ZERO);
        there[to] = Frac.of(n(), 1);
        return (int) awaited(there, 0, pump(level, wanted(this::told, level, broken), ruleNow()).low()).floor();
    }

    // ---- for ever ----

    /** Elimination: values x with x = pay + weight times what is awaited of x. */
    private Frac[] forEver(Frac[] pay, int[] from, int[] low, Frac weight) {
        int size = pay.length;
        Frac[][] rows = new Frac[size][size + 1];
        for (int s = 0; s < size; s++) {
            Arrays.fill(rows[s], Frac.ZERO);
            rows[s][s] = Frac.ONE;
            rows[s][size] = pay[s];
            for (int rain = 0; rain < 4; rain++) {
                int to = from[s] + Math.min(top, low[s] + rain);
                rows[s][to] = rows[s][to].less(weight.times(Frac.of(w[rain], n())));
            }
        }
        for (int s = 0; s < size; s++) {
            Frac pivot = rows[s][s];
            for (int c = s; c <= size; c++) {
                rows[s][c] = rows[s][c].by(pivot);
            }
            for (int r = 0; r < size; r++) {
                Frac factor = rows[r][s];
                for (int c = s; r != s && factor.above().signum() != 0 && c <= size; c++) {
                    rows[r][c] = rows[r][c].less(factor.times(rows[s][c]));
                }
            }
        }
        Frac[] values = new Frac[size];
        for (int s = 0; s < size; s++) {
            values[s] = rows[s][size];
        }
        return values;
    }

    /** By level, and behind all levels by level once more, broken. */
    private Frac[] worths(int farm, Wants wants, Frac weight) {
        int levels = top + 1;
        Frac[] pay = new Frac[2 * levels];
        int[] from = new int[2 * levels];
        int[] low = new int[2 * levels];
        for (int s = 0; s < 2 * levels; s++) {
            int level = s % levels;
            Outcome outcome = pump(level, wanted(wants, level, s >= levels), ruleNow());
            pay[s] = gain(farm, level, outcome.got()[farm], ruleNow());
            from[s] = s - level;
            low[s] = outcome.low();
        }
        return forEver(pay, from, low, weight);
    }

    public long worth(int farm, int level, boolean broken, boolean below) {
        farmAndLevel(farm, level);
        return half(worths(farm, this::told, weight())[level + (broken ? top + 1 : 0)], below);
    }

    private static long half(Frac frac, boolean below) {
        return (below ? frac.below() : frac.above()).longValueExact();
    }

    private int judge(Wants wants, Frac weight) {
        int levels = top + 1;
        int best = NONE;
        for (int farm = 0; farm < farms.size(); farm++) {
            Frac[] worths = worths(farm, wants, weight);
            for (int s = 0; s < 2 * levels; s++) {
                int level = s % levels;
                int name = 100 * (s / levels) + 10 * level + farm;
                for (int k = 0; k < 4; k++) {
                    int[] want = wanted(wants, level, s >= levels);
                    want[farm] = k;
                    Outcome outcome = pump(level, want, ruleNow());
                    boolean then = s >= levels || k > wants.of(farm, level, false);
                    Frac other = gain(farm, level, outcome.got()[farm], ruleNow())
                            .plus(weight.times(awaited(worths, then ? levels : 0, outcome.low())));
                    if (other.compareTo(worths[s]) > 0 && (best == NONE || name < best)) {
                        best = name;
                    }
                }
            }
        }
        return best;
    }

    public int judge() {
        return judge(this::told, weight());
    }

    public int pacts(int draw) {
        index(in(draw, 0, draws.size() - 1));
        int bits = 0;
        for (int k = 0; k < 4; k++) {
            int number = k;
            Wants pact = (farm, level, broken) -> broken ? by(draw, farm, level, true) : number;
            bits += judge(pact, weight()) == NONE ? 1 << k : 0;
        }
        return bits;
    }

    public int weak() {
        for (int[] pq : WEIGHTS) {
            int found = judge(this::told, Frac.of(pq[0], pq[1]));
            if (found != NONE) {
                return 100 * pq[0] + 10 * pq[1] + found % 10;
            }
        }
        return NONE;
    }

    // ---- the best numbers ----

    /** Ways by level, what they pay and where they leave the level. */
    private final class Ways {
        final Frac[][] pay;
        final int[][] low;
        Frac[] values;

        Ways(int ways) {
            pay = new Frac[top + 1][ways];
            low = new int[top + 1][ways];
        }

        Frac value(int level, int way) {
            return pay[level][way].plus(weight().times(awaited(values, 0, low[level][way])));
        }

        int least(int level) {
            int best = 0;
            for (int way = 1; way < pay[level].length; way++) {
                if (value(level, way).compareTo(value(level, best)) > 0) {
                    best = way;
                }
            }
            return best;
        }

        /** Rounded values show likely ways; whether they are the best is seen exactly: no way is worth more. */
        void settle() {
            int[] ways = likely();
            boolean better = true;
            while (better) {
                Frac[] pays = new Frac[top + 1];
                int[] lows = new int[top + 1];
                for (int level = 0; level <= top; level++) {
                    pays[level] = pay[level][ways[level]];
                    lows[level] = low[level][ways[level]];
                }
                values = forEver(pays, new int[top + 1], lows, weight());
                better = false;
                for (int level = 0; level <= top && !better; level++) {
                    int least = least(level);
                    if (value(level, least).compareTo(values[level]) > 0) {
                        ways[level] = least;
                        better = true;
                    }
                }
            }
        }

        private int[] likely() {
            double[] now = new double[top + 1];
            int[] ways = new int[top + 1];
            double[][] pays = new double[top + 1][];
            for (int level = 0; level <= top; level++) {
                pays[level] = Arrays.stream(pay[level]).mapToDouble(Frac::near).toArray();
            }
            for (int turn = 0; turn < 200; turn++) {
                double[] then = new double[top + 1];
                for (int level = 0; level <= top; level++) {
                    then[level] = Double.NEGATIVE_INFINITY;
                    for (int way = 0; way < pay[level].length; way++) {
                        double value = pays[level][way];
                        for (int rain = 0; rain < 4; rain++) {
                            value += now[Math.min(top, low[level][way] + rain)] * w[rain] * p / q / n();
                        }
                        if (value > then[level]) {
                            then[level] = value;
                            ways[level] = way;
                        }
                    }
                }
                now = then;
            }
            return ways;
        }
    }

    private Ways waysOf(int farm, int cost) {
        Ways ways = new Ways(4);
        for (int level = 0; level <= top; level++) {
            for (int k = 0; k < 4; k++) {
                int[] want = wanted(this::told, level, false);
                want[farm] = k;
                Outcome outcome = pump(level, want, ruleNow());
                ways.pay[level][k] = gain(farm, level, outcome.got()[farm], ruleNow(), cost);
                ways.low[level][k] = outcome.low();
            }
        }
        return ways;
    }

    private int[] numbers(int way) {
        int[] numbers = new int[farms.size()];
        for (int farm = numbers.length - 1, left = way; farm >= 0; farm--, left /= 4) {
            numbers[farm] = left % 4;
        }
        return numbers;
    }

    private int all() {
        return (int) Math.pow(4, farms.size());
    }

    private Ways owners() {
        Ways ways = new Ways(all());
        for (int level = 0; level <= top; level++) {
            for (int way = 0; way < all(); way++) {
                Outcome outcome = pump(level, numbers(way), rules.get(0));
                ways.pay[level][way] = Frac.ZERO;
                for (int farm = 0; farm < farms.size(); farm++) {
                    ways.pay[level][way] = ways.pay[level][way]
                            .plus(gain(farm, level, outcome.got()[farm], rules.get(0)));
                }
                ways.low[level][way] = outcome.low();
            }
        }
        ways.settle();
        return ways;
    }

    private int answer(int farm, int level, int cost) {
        Ways ways = waysOf(farm, cost);
        ways.settle();
        return ways.least(level);
    }

    public int answer(int farm, int level) {
        farmAndLevel(farm, level);
        return answer(farm, level, farms.get(farm).cost());
    }

    public int edge(int farm, int level) {
        farmAndLevel(farm, level);
        int own = farms.get(farm).cost();
        int best = NONE;
        for (int cost = 0; cost <= 9; cost++) {
            boolean nearer = best == NONE || Math.abs(cost - own) < Math.abs(best - own);
            if (nearer && answer(farm, level, cost) != answer(farm, level, own)) {
                best = cost;
            }
        }
        return best;
    }

    public int owner(int farm, int level) {
        farmAndLevel(farm, level);
        return numbers(owners().least(level))[farm];
    }

    public long owned(int level, boolean below) {
        level(level);
        return half(owners().values[level], below);
    }

    public long lost(int level) {
        level(level);
        Frac more = owners().values[level];
        for (int farm = 0; farm < farms.size(); farm++) {
            more = more.less(worths(farm, this::told, weight())[level]);
        }
        return more.floor();
    }

    public int near(int farm, int level, int years) {
        farmAndLevel(farm, level);
        argument(in(years, 1, 8));
        Ways ways = waysOf(farm, farms.get(farm).cost());
        ways.values = new Frac[top + 1];
        Arrays.fill(ways.values, Frac.ZERO);
        for (int year = 1; year < years; year++) {
            Frac[] then = new Frac[top + 1];
            for (int at = 0; at <= top; at++) {
                then[at] = ways.value(at, ways.least(at));
            }
            ways.values = then;
        }
        return ways.least(level);
    }

    // ---- rests ----

    /** With so many years left, by level: the way, and by farm (all together behind them) what it is worth. */
    private record Rest(int[] way, Frac[][] values) {
    }

    private Rest rest(int years, Rule rule) {
        int count = farms.size();
        Rest rest = new Rest(new int[top + 1], new Frac[count + 1][top + 1]);
        for (Frac[] values : rest.values()) {
            Arrays.fill(values, Frac.ZERO);
        }
        if (years == 0) {
            return rest;
        }
        Rest then = rest(years - 1, rule);
        for (int level = 0; level <= top; level++) {
            Frac[][] worth = new Frac[all()][];
            for (int way = 0; way < all(); way++) {
                worth[way] = restOf(level, numbers(way), rule, then);
            }
            int chosen = 0;
            for (int way = all() - 1; way >= 0; way--) {
                chosen = rests(way, worth) ? way : chosen;
            }
            rest.way()[level] = chosen;
            for (int farm = 0; farm <= count; farm++) {
                rest.values()[farm][level] = worth[chosen][farm];
            }
        }
        return rest;
    }

    private Frac[] restOf(int level, int[] numbers, Rule rule, Rest then) {
        int count = farms.size();
        Outcome outcome = pump(level, numbers, rule);
        Frac[] worth = new Frac[count + 1];
        worth[count] = weight().times(awaited(then.values()[count], 0, outcome.low()));
        for (int farm = 0; farm < count; farm++) {
            int got = outcome.got()[farm];
            worth[farm] = gain(farm, level, got, rule)
                    .plus(weight().times(awaited(then.values()[farm], 0, outcome.low())));
            worth[count] = worth[count].plus(plain(farm, level, got, farms.get(farm).cost()));
        }
        return worth;
    }

    private boolean rests(int way, Frac[][] worth) {
        for (int other = 0; other < all(); other++) {
            int[] a = numbers(way);
            int[] b = numbers(other);
            int differs = -1;
            int differing = 0;
            for (int farm = 0; farm < a.length; farm++) {
                if (a[farm] != b[farm]) {
                    differs = farm;
                    differing++;
                }
            }
            if (differing == 1 && worth[other][differs].compareTo(worth[way][differs]) > 0) {
                return false;
            }
        }
        return true;
    }

    public int rest(int farm, int level, int years) {
        farmAndLevel(farm, level);
        argument(in(years, 1, 8));
        return numbers(rest(years, ruleNow()).way()[level])[farm];
    }

    public long restWorth(int farm, int level, int years, boolean below) {
        farmAndLevel(farm, level);
        argument(in(years, 1, 8));
        return half(rest(years, ruleNow()).values()[farm][level], below);
    }

    public int nearest(int level, int years) {
        level(level);
        argument(in(years, 1, 8));
        int best = 0;
        Frac most = null;
        for (int rule = 0; rule < rules.size(); rule++) {
            Frac worth = rest(years, rules.get(rule)).values()[farms.size()][level];
            if (most == null || worth.compareTo(most) > 0) {
                most = worth;
                best = rule;
            }
        }
        return best;
    }

    // ---- rows of rain ----

    private int low(int level) {
        return pump(level, wanted(this::told, level, false), ruleNow()).low();
    }

    public long dry(int level, int years) {
        level(level);
        argument(in(years, 0, 20));
        long[] wet = new long[top + 1];
        wet[level] = 1;
        long all = 1;
        for (int year = 0; year < years; year++) {
            wet = walk(wet);
            wet[0] = 0;
            all *= n();
        }
        return all - Arrays.stream(wet).sum();
    }

    private long[] walk(long[] rows) {
        long[] then = new long[top + 1];
        for (int level = 0; level <= top; level++) {
            for (int rain = 0; rain < 4; rain++) {
                then[Math.min(top, low(level) + rain)] += rows[level] * w[rain];
            }
        }
        return then;
    }

    public long part(int farm, int level, int years) {
        farmAndLevel(farm, level);
        argument(in(years, 0, 12));
        long[] rows = new long[top + 1];
        rows[level] = 1;
        long buckets = 0;
        for (int year = 0; year < years; year++) {
            buckets *= n();
            for (int at = 0; at <= top; at++) {
                buckets += rows[at] * n() * wants(farm, at, false, true);
            }
            rows = walk(rows);
        }
        return buckets;
    }

    public int most(int level, int years) {
        level(level);
        argument(in(years, 0, 12));
        int best = NONE;
        for (int farm = farms.size() - 1; farm >= 0; farm--) {
            if (best == NONE || part(farm, level, years) >= part(best, level, years)) {
                best = farm;
            }
        }
        return best;
    }

    public int lasts(int level) {
        level(level);
        int years = 0;
        for (int at = level; at > 0; at = low(at)) {
            years++;
            if (years > 100) {
                return NONE;
            }
        }
        return years;
    }

    // ---- a run ----

    public int run(int level, int years, int seed, boolean told, int what) {
        level(level);
        argument(in(years, 0, 100));
        if (!in(what, 0, 7)) {
            throw new NoSuchElementException();
        }
        int[] had = new int[3];
        int at = level;
        int dry = NONE;
        int firstBroken = NONE;
        boolean broken = false;
        int lower = beside == null ? NONE : beside.level();
        int folk = 0;
        int s = seed;
        for (int year = 0; year < years; year++) {
            firstBroken = broken && firstBroken == NONE ? year : firstBroken;
            int[] want = wanted(this::told, at, broken);
            for (Break b : breaks) {
                if (b.year() == year) {
                    want[b.farm()] = b.n();
                }
            }
            for (int farm = 0; farm < want.length; farm++) {
                broken |= want[farm] > told(farm, at, false);
            }
            Outcome outcome = pump(at, want, ruleNow());
            for (int farm = 0; farm < want.length; farm++) {
                had[farm] += gain(farm, at, outcome.got()[farm], ruleNow()).times(Frac.of(4, 1)).floor();
            }
            if (beside != null) {
                lower = Math.min(beside.top(), lower + (outcome.leaked() ? 1 : 0));
                int drawn = Math.min(lower, beside.want());
                lower -= drawn;
                folk += drawn;
            }
            s = s * 1103515245 + 12345;
            int rain = told ? (year < row.length ? row[year] : 0) : rainOf((s >> 16 & 32767) % n());
            at = Math.min(top, outcome.low() + rain);
            dry = at == 0 && dry == NONE ? year : dry;
        }
        return new int[] {had[0], had[1], had[2], at, dry, firstBroken, lower, folk}[what];
    }

    private int rainOf(int part) {
        List<Integer> rains = new ArrayList<>();
        for (int rain = 0; rain < 4; rain++) {
            for (int times = 0; times < w[rain]; times++) {
                rains.add(rain);
            }
        }
        return rains.get(part);
    }
}
