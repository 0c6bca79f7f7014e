import java.util.Arrays;
import java.util.NoSuchElementException;

/** One well, the farms that pump from it, and what their told draws come to: see README.md. */
public final class WellPumps {
    public static final int NONE = -1;

    private static final int TAPE_BYTES = 400;
    private static final int FARMS = 3;
    private static final int RULES = 5;
    private static final int DRAWS = 6;
    private static final int BREAKS = 6;
    private static final int TOPS = 7;
    private static final int COSTS = 10;
    private static final int LEVELS = 8;
    /** Numbers that a farm may want, and amounts of rain: 0 to 3 both. */
    private static final int NUMBERS = 4;
    /** Numbers for all farms at once: 4 times 4 times 4. */
    private static final int WAYS = 64;
    private static final int MOST_YEARS_SEEN = 8;
    private static final int MOST_YEARS_DRY = 20;
    private static final int MOST_YEARS_PART = 12;
    private static final int MOST_YEARS_RUN = 100;
    /** Euclid's steps on longs end before a hundred. */
    private static final int EUCLID_STEPS = 200;

    /** All P / Q with Q at most 5, without a common part, from the greatest downwards. */
    private static final int[] WEIGHTS = {4, 5, 3, 4, 2, 3, 3, 5, 1, 2, 2, 5, 1, 3, 1, 4, 1, 5};

    private final Tape tape = new Tape();
    private final Reader reader = new Reader(tape);
    private final Told now = new Told();
    private final Told kept = new Told();
    private final Year oneYear = new Year();
    private final Judge judges = new Judge(oneYear);
    private final Choice choice = new Choice(oneYear);
    private final Rests rests = new Rests(oneYear);
    private final Rows rows = new Rows(oneYear);
    private final Trip trip = new Trip(oneYear, now);
    private boolean hasImage = false;
    private int firstWrong = NONE;

    public WellPumps() {
    }

    // ---- what is told ----

    public int feed(int a, int b, int c, int d, int e) {
        if (tape.length > TAPE_BYTES - 20) {
            return NONE;
        }
        tape.put(a);
        tape.put(b);
        tape.put(c);
        tape.put(d);
        tape.put(e);
        return tape.length;
    }

    public boolean end(int n) {
        if (n < 0 || n > tape.length) {
            return false;
        }
        tape.length = n;
        return true;
    }

    public void well(int top, int leak) throws IllegalArgumentException {
        needNumber(top, 1, TOPS);
        needNumber(leak, NONE, TOPS);
        now.top = top;
        now.leak = leak;
    }

    public void rain(int w0, int w1, int w2, int w3) throws IllegalArgumentException {
        needNumber(w0, 0, 4);
        needNumber(w1, 0, 4);
        needNumber(w2, 0, 4);
        needNumber(w3, 0, 4);
        needNumber(w0 + w1 + w2 + w3, 1, 4);
        now.parts[0] = w0;
        now.parts[1] = w1;
        now.parts[2] = w2;
        now.parts[3] = w3;
    }

    public void years(int p, int q) throws IllegalArgumentException {
        needNumber(q, 2, 5);
        needNumber(p, 1, q - 1);
        now.p = p;
        now.q = q;
    }

    public int farm(int one, int two, int three, int cost)
            throws IllegalArgumentException, UnsupportedOperationException {
        needNumber(one, 0, 99);
        needNumber(two, 0, 99);
        needNumber(three, 0, 99);
        needNumber(cost, 0, COSTS - 1);
        needRoom(now.farms, FARMS);
        return now.addFarm(one, two, three, cost);
    }

    public int rule(int price, int least, int share, int fine, int seen)
            throws IllegalArgumentException, UnsupportedOperationException {
        needNumber(price, 0, 9);
        needNumber(least, 0, 7);
        needNumber(share, 0, 3);
        needNumber(fine, 0, 99);
        needNumber(seen, 0, 4);
        needRoom(now.rules, RULES);
        return now.addRule(price, least, share, fine, seen);
    }

    public boolean force(int rule) throws IndexOutOfBoundsException {
        needIndex(rule, now.rules);
        boolean other = now.inForce != rule;
        now.inForce = rule;
        return other;
    }

    public int draw() throws IllegalArgumentException, UnsupportedOperationException {
        firstWrong = reader.read();
        tape.length = 0;
        if (firstWrong != NONE) {
            throw new IllegalArgumentException("the text is wrong");
        }
        needRoom(now.draws, DRAWS);
        return now.addDraw(reader.tells);
    }

    public int fault() {
        return firstWrong;
    }

    public boolean by(int farm, int draw) throws IndexOutOfBoundsException {
        needFarm(farm);
        if (draw != NONE) {
            needIndex(draw, now.draws);
        }
        boolean other = now.goesBy[farm] != draw;
        now.goesBy[farm] = draw;
        return other;
    }

    public int broken(int year, int farm, int n) throws IndexOutOfBoundsException, IllegalArgumentException {
        needFarm(farm);
        needNumber(year, 0, 99);
        needNumber(n, 0, 3);
        if (now.breaks >= BREAKS) {
            return NONE;
        }
        return now.addBreak(year, farm, n);
    }

    public int row() throws IllegalArgumentException {
        int length = tape.length;
        tape.length = 0;
        for (int at = 0; at < length; at++) {
            needNumber(tape.bytes[at], 0, 3);
        }
        now.rowYears = length;
        System.arraycopy(tape.bytes, 0, now.rowRains, 0, length);
        return length;
    }

    public void beside(int top, int level, int want) throws IllegalArgumentException {
        needNumber(top, 1, TOPS);
        needNumber(level, 0, top);
        needNumber(want, 0, 3);
        now.beside[Told.LOWER_TOP] = top;
        now.beside[Told.LOWER_LEVEL] = level;
        now.beside[Told.LOWER_WANT] = want;
    }

    public void image() {
        kept.become(now);
        hasImage = true;
    }

    public boolean back() {
        if (!hasImage) {
            return false;
        }
        now.become(kept);
        return true;
    }

    public int count(int what) {
        switch (what) {
            case 0: return now.farms;
            case 1: return now.draws;
            case 2: return now.rules;
            case 3: return now.inForce;
            case 4: return now.breaks;
            case 5: return now.rowYears;
            case 6: return now.allParts();
            case 7: return now.top;
            case 8: return levelsOfRest();
            default: return NONE;
        }
    }

    // ---- one year, and all years by the draws ----

    public int wants(int farm, int level, boolean broken, boolean got) throws IndexOutOfBoundsException {
        needFarm(farm);
        needLevel(level);
        pumpByDraws(level, broken);
        return got ? oneYear.got[farm] : oneYear.want[farm];
    }

    public int gains(int farm, int level, boolean broken) throws IndexOutOfBoundsException {
        needFarm(farm);
        needLevel(level);
        pumpByDraws(level, broken);
        return oneYear.had(farm, level);
    }

    public int next(int level, boolean broken, int to) throws IndexOutOfBoundsException {
        needLevel(level);
        needLevel(to);
        pumpByDraws(level, broken);
        return oneYear.partsTo(to);
    }

    public long worth(int farm, int level, boolean broken, boolean below) throws IndexOutOfBoundsException {
        needFarm(farm);
        needLevel(level);
        oneYear.open(now);
        Chain chain = broken ? judges.behind : judges.ahead;
        chain.follow(broken ? 1 : 0);
        chain.settle(oneYear.p, oneYear.q);
        chain.solve(farm);
        return half(chain.above[farm * LEVELS + level], 4 * chain.base, below);
    }

    public int judge() {
        oneYear.open(now);
        judges.follow();
        return judges.first(oneYear.p, oneYear.q);
    }

    public int pacts(int draw) throws IndexOutOfBoundsException {
        needIndex(draw, now.draws);
        oneYear.open(now);
        int bits = 0;
        for (int number = 0; number < NUMBERS; number++) {
            oneYear.promise(now, number, draw);
            judges.follow();
            if (judges.first(oneYear.p, oneYear.q) == NONE) {
                bits |= 1 << number;
            }
        }
        return bits;
    }

    public int weak() {
        oneYear.open(now);
        judges.follow();
        for (int at = 0; at + 1 < WEIGHTS.length; at += 2) {
            int found = judges.first(WEIGHTS[at], WEIGHTS[at + 1]);
            if (found != NONE) {
                return 100 * WEIGHTS[at] + 10 * WEIGHTS[at + 1] + found % 10;
            }
        }
        return NONE;
    }

    // ---- the best answers ----

    public int answer(int farm, int level) throws IndexOutOfBoundsException {
        needFarm(farm);
        needLevel(level);
        oneYear.open(now);
        return choice.answerAt(farm, level);
    }

    public int edge(int farm, int level) throws IndexOutOfBoundsException {
        needFarm(farm);
        needLevel(level);
        oneYear.open(now);
        int own = now.costs[farm];
        int number = choice.answerAt(farm, level);
        // the lesser of two as near comes first
        for (int turn = 2; turn < 2 * COSTS; turn++) {
            int cost = turn % 2 == 0 ? own - turn / 2 : own + turn / 2;
            if (cost >= 0 && cost < COSTS) {
                oneYear.priceWith(now, now.inForce, farm, cost);
                if (choice.answerAt(farm, level) != number) {
                    return cost;
                }
            }
        }
        return NONE;
    }

    public int owner(int farm, int level) throws IndexOutOfBoundsException {
        needFarm(farm);
        needLevel(level);
        ownAll();
        return oneYear.numberIn(choice.chosen[level], farm);
    }

    public long owned(int level, boolean below) throws IndexOutOfBoundsException {
        needLevel(level);
        ownAll();
        return half(choice.chain.above[level], 4 * choice.chain.base, below);
    }

    public long lost(int level) throws IndexOutOfBoundsException {
        needLevel(level);
        oneYear.open(now);
        Chain chain = judges.ahead;
        chain.follow(0);
        chain.settle(oneYear.p, oneYear.q);
        long together = 0;
        for (int farm = 0; farm < oneYear.farms; farm++) {
            chain.solve(farm);
            together += chain.above[farm * LEVELS + level];
        }
        ownAll();
        return wholeLess(choice.chain.above[level], 4 * choice.chain.base, together, 4 * chain.base);
    }

    public int near(int farm, int level, int years) throws IndexOutOfBoundsException, IllegalArgumentException {
        needFarm(farm);
        needLevel(level);
        needNumber(years, 1, MOST_YEARS_SEEN);
        oneYear.open(now);
        return choice.nearAt(farm, level, years);
    }

    // ---- rests ----

    public int rest(int farm, int level, int years) throws IndexOutOfBoundsException, IllegalArgumentException {
        needFarm(farm);
        needLevel(level);
        needNumber(years, 1, MOST_YEARS_SEEN);
        oneYear.open(now);
        rests.work(level, years);
        return oneYear.numberIn(rests.chosen, farm);
    }

    public long restWorth(int farm, int level, int years, boolean below)
            throws IndexOutOfBoundsException, IllegalArgumentException {
        needFarm(farm);
        needLevel(level);
        needNumber(years, 1, MOST_YEARS_SEEN);
        oneYear.open(now);
        rests.work(level, years);
        return half(rests.held[farm * LEVELS + level], 4 * rests.scale, below);
    }

    public int nearest(int level, int years) throws IndexOutOfBoundsException, IllegalArgumentException {
        needLevel(level);
        needNumber(years, 1, MOST_YEARS_SEEN);
        oneYear.open(now);
        int best = NONE;
        long most = 0;
        for (int rule = 0; rule < now.rules; rule++) {
            oneYear.ruleWith(now, rule);
            rests.work(level, years);
            long together = rests.held[Rests.TOGETHER + level];
            if (best == NONE || together > most) {
                best = rule;
                most = together;
            }
        }
        return best;
    }

    // ---- rows of rain, and a run ----

    public long dry(int level, int years) throws IndexOutOfBoundsException, IllegalArgumentException {
        needLevel(level);
        needNumber(years, 0, MOST_YEARS_DRY);
        oneYear.open(now);
        return rows.runDry(level, years);
    }

    public long part(int farm, int level, int years) throws IndexOutOfBoundsException, IllegalArgumentException {
        needFarm(farm);
        needLevel(level);
        needNumber(years, 0, MOST_YEARS_PART);
        oneYear.open(now);
        return rows.buckets(farm, level, years);
    }

    public int most(int level, int years) throws IndexOutOfBoundsException, IllegalArgumentException {
        needLevel(level);
        needNumber(years, 0, MOST_YEARS_PART);
        oneYear.open(now);
        int best = NONE;
        long most = 0;
        for (int farm = 0; farm < oneYear.farms; farm++) {
            long buckets = rows.buckets(farm, level, years);
            if (best == NONE || buckets > most) {
                best = farm;
                most = buckets;
            }
        }
        return best;
    }

    public int lasts(int level) throws IndexOutOfBoundsException {
        needLevel(level);
        oneYear.open(now);
        int at = level;
        for (int years = 0; years <= MOST_YEARS_RUN; years++) {
            if (at == 0) {
                return years;
            }
            oneYear.pumpBy(at, 0);
            at = oneYear.low;
        }
        return NONE;
    }

    public int run(int level, int years, int seed, boolean told, int what)
            throws IndexOutOfBoundsException, IllegalArgumentException, NoSuchElementException {
        needLevel(level);
        needNumber(years, 0, MOST_YEARS_RUN);
        if (what < 0 || what > 7) {
            throw new NoSuchElementException("a run tells no such thing");
        }
        oneYear.open(now);
        trip.begin(level, seed, told);
        for (int at = 0; at < years; at++) {
            trip.pass(at);
        }
        return trip.tells(what);
    }

    // ---- helpers of the face ----

    private void needFarm(int farm) {
        needIndex(farm, now.farms);
    }

    private void needLevel(int level) {
        needIndex(level, now.top + 1);
    }

    private static void needIndex(int index, int size) {
        if (index < 0 || index >= size) {
            throw new IndexOutOfBoundsException("there is no such one");
        }
    }

    private static void needNumber(int number, int least, int most) {
        if (number < least || number > most) {
            throw new IllegalArgumentException("the number is none");
        }
    }

    private static void needRoom(int size, int most) {
        if (size >= most) {
            throw new UnsupportedOperationException("there are no more");
        }
    }

    private void pumpByDraws(int level, boolean broken) {
        oneYear.open(now);
        oneYear.pumpBy(level, broken ? 1 : 0);
    }

    private int levelsOfRest() {
        oneYear.open(now);
        int levels = 0;
        for (int level = 0; level <= oneYear.top; level++) {
            oneYear.wish(level, 0);
            int wanted = 0;
            for (int farm = 0; farm < oneYear.farms; farm++) {
                wanted += oneYear.want[farm];
            }
            if (wanted == 0) {
                levels++;
            }
        }
        return levels;
    }

    /** The owner stands under rule 0, whichever is in force. */
    private void ownAll() {
        oneYear.open(now);
        oneYear.ruleWith(now, 0);
        choice.offerAll();
        choice.settle();
    }

    // ---- fractions ----

    /** The upper or lower number of a fraction without a common part; below is above 0. */
    private static long half(long above, long below, boolean lower) {
        long common = commonPart(Math.abs(above), below);
        if (common == 0) {
            return lower ? 1 : 0;
        }
        return (lower ? below : above) / common;
    }

    private static long commonPart(long one, long other) {
        long a = one;
        long b = other;
        for (int step = 0; b != 0 && step < EUCLID_STEPS; step++) {
            long left = a % b;
            a = b;
            b = left;
        }
        return a;
    }

    /** Whether a / b is more than c / d, b and d above 0; without products, which might not fit. */
    private static boolean isMore(long a, long b, long c, long d) {
        long upA = a;
        long downA = b;
        long upC = c;
        long downC = d;
        for (int step = 0; downA > 0 && downC > 0 && step < EUCLID_STEPS; step++) {
            long wholeA = Math.floorDiv(upA, downA);
            long wholeC = Math.floorDiv(upC, downC);
            long leftA = upA - wholeA * downA;
            long leftC = upC - wholeC * downC;
            if (wholeA != wholeC) {
                return wholeA > wholeC;
            }
            if (leftA == 0 || leftC == 0) {
                return leftA > leftC;
            }
            // of two parts of one the greater is the lesser the other way up, so they change places too
            upA = downC;
            upC = downA;
            downA = leftC;
            downC = leftA;
        }
        return false;
    }

    /** The whole part, rounded down, of a / b less c / d. */
    private static long wholeLess(long a, long b, long c, long d) {
        if (b <= 0 || d <= 0) {
            return 0;
        }
        long whole = Math.floorDiv(a, b) - Math.floorDiv(c, d);
        return isMore(Math.floorMod(c, d), d, Math.floorMod(a, b), b) ? whole - 1 : whole;
    }

    // ---- texts ----

    private static final class Tape {
        final byte[] bytes = new byte[TAPE_BYTES];
        int length = 0;

        void put(int number) {
            for (int shift = 24; shift >= 0 && length < TAPE_BYTES; shift -= 8) {
                bytes[length] = (byte) (number >> shift);
                length++;
            }
        }

        boolean isIn(int index, char first, char last) {
            return index >= 0 && index < length && bytes[index] >= first && bytes[index] <= last;
        }
    }

    /** What a text is made of. */
    private enum Thing {
        END(""), WRONG(""), NUMBER(""),
        DRAW("draw"), IF("if"), OR("or"), AND("and"), NOT("not"), BROKEN("broken"),
        LEVEL("level"), TOP("top"), FARM("farm"),
        OPEN("("), CLOSE(")"), PLUS("+"), LESS("<"), MORE(">"), SEMICOLON(";");

        private static final Thing[] ALL = values();

        private final String spelling;

        Thing(String spelling) {
            this.spelling = spelling;
        }

        private boolean isSpelled(Tape tape, int from, int to) {
            if (spelling.isEmpty() || spelling.length() != to - from) {
                return false;
            }
            for (int at = from; at < to; at++) {
                if (tape.bytes[at] != spelling.charAt(at - from)) {
                    return false;
                }
            }
            return true;
        }

        static Thing spelledBy(Tape tape, int from, int to) {
            for (int at = 0; at < ALL.length; at++) {
                if (ALL[at].isSpelled(tape, from, to)) {
                    return ALL[at];
                }
            }
            return WRONG;
        }
    }

    /**
     * Reads the text of a draw: into things first, then once for each top by lines. What a condition comes to is
     * held as 48 bits, one for each farm, broken or not, and level, so that a text is worked out while it is read
     * and need not be kept.
     */
    private static final class Reader {
        private static final int LINES = 10;
        private static final int DEPTH = 6;
        private static final long EVERYWHERE = (1L << FARMS * 2 * LEVELS) - 1;
        private static final long WHERE_BROKEN = 0xff00ff00ff00L;

        private final Tape tape;
        /** Each thing, where it begins, and what number it is; an END is the last. */
        private final Thing[] things = new Thing[TAPE_BYTES + 1];
        private final int[] begins = new int[TAPE_BYTES + 1];
        private final int[] numbers = new int[TAPE_BYTES + 1];
        private int at;
        private Thing thing = Thing.END;
        private int top;
        private int wrong;
        /** A sum: a number, how often the level, how often the farm. */
        private final int[] left = new int[3];
        private final int[] right = new int[3];
        /** For each top, from 1 on: where the number told has its bit of 1, and where that of 2. */
        final long[] tells = new long[TOPS * 2];

        Reader(Tape tape) {
            this.tape = tape;
        }

        static int place(int farm, int level, int broken) {
            return (farm * 2 + broken) * LEVELS + level;
        }

        /** The first wrong byte, or NONE. */
        int read() {
            partText();
            wrong = NONE;
            for (top = 1; top <= TOPS && wrong == NONE; top++) {
                at = 0;
                thing = things[0];
                readLines();
            }
            return wrong;
        }

        private void partText() {
            int count = 0;
            int behind = 0;
            for (int turn = 0; behind < tape.length && turn < TAPE_BYTES; turn++) {
                int begin = behind;
                behind = behindThing(begin);
                if (tape.bytes[begin] != ' ') {
                    things[count] = thingOf(begin, behind);
                    numbers[count] = things[count] == Thing.NUMBER ? numberOf(begin, behind) : 0;
                    begins[count] = begin;
                    count++;
                }
            }
            things[count] = Thing.END;
            numbers[count] = 0;
            begins[count] = tape.length;
        }

        private int behindThing(int begin) {
            int behind = begin + 1;
            if (tape.isIn(begin, 'a', 'z')) {
                while (behind < tape.length && tape.isIn(behind, 'a', 'z')) {
                    behind++;
                }
            } else if (tape.isIn(begin, '0', '9')) {
                while (behind < tape.length && tape.isIn(behind, '0', '9')) {
                    behind++;
                }
            }
            return behind;
        }

        private int numberOf(int begin, int behind) {
            int number = 0;
            for (int index = begin; index < behind; index++) {
                number = number * 10 + tape.bytes[index] - '0';
            }
            return number;
        }

        private Thing thingOf(int begin, int behind) {
            if (tape.isIn(begin, '0', '9')) {
                return behind - begin > 2 ? Thing.WRONG : Thing.NUMBER;
            }
            return Thing.spelledBy(tape, begin, behind);
        }

        private void readLines() {
            int index = (top - 1) * 2;
            tells[index] = 0;
            tells[index + 1] = 0;
            long open = EVERYWHERE;
            boolean more = thing != Thing.END;
            for (int line = 0; more && line < LINES; line++) {
                open = readLine(open);
                more = thing == Thing.SEMICOLON;
                if (more) {
                    step();
                }
            }
            if (more || thing != Thing.END) {
                refuse();
            }
        }

        /** Tells where no line up to this one holds. */
        private long readLine(long open) {
            take(Thing.DRAW);
            int number = numbers[at];
            if (number >= NUMBERS) {
                refuse();
            }
            take(Thing.NUMBER);
            long holds = open;
            if (thing == Thing.IF) {
                step();
                holds &= readCondition(0);
            }
            int index = (top - 1) * 2;
            if ((number & 1) != 0) {
                tells[index] |= holds;
            }
            if ((number & 2) != 0) {
                tells[index + 1] |= holds;
            }
            return open & ~holds;
        }

        private long readCondition(int depth) {
            long holds = readAll(depth);
            for (int times = 0; thing == Thing.OR && times < TAPE_BYTES; times++) {
                step();
                holds |= readAll(depth);
            }
            return holds;
        }

        private long readAll(int depth) {
            long holds = readAtom(depth);
            for (int times = 0; thing == Thing.AND && times < TAPE_BYTES; times++) {
                step();
                holds &= readAtom(depth);
            }
            return holds;
        }

        private long readAtom(int depth) {
            boolean not = thing == Thing.NOT;
            if (!not && thing != Thing.OPEN) {
                return readTagOrSums();
            }
            if (depth >= DEPTH) {
                refuse();
                return 0;
            }
            step();
            if (not) {
                return EVERYWHERE & ~readAtom(depth + 1);
            }
            long holds = readCondition(depth + 1);
            take(Thing.CLOSE);
            return holds;
        }

        private long readTagOrSums() {
            if (thing == Thing.BROKEN) {
                step();
                return WHERE_BROKEN;
            }
            readSum(left);
            boolean less = thing == Thing.LESS;
            take(less ? Thing.LESS : Thing.MORE);
            readSum(right);
            return less ? whereLess(left, right) : whereLess(right, left);
        }

        private void readSum(int[] sum) {
            Arrays.fill(sum, 0);
            boolean more = true;
            for (int times = 0; more && times < TAPE_BYTES; times++) {
                if (thing == Thing.NUMBER) {
                    sum[0] += numbers[at];
                } else if (thing == Thing.TOP) {
                    sum[0] += top;
                } else if (thing == Thing.LEVEL) {
                    sum[1]++;
                } else if (thing == Thing.FARM) {
                    sum[2]++;
                } else {
                    refuse();
                }
                step();
                more = thing == Thing.PLUS;
                if (more) {
                    step();
                }
            }
        }

        private static long whereLess(int[] less, int[] more) {
            long holds = 0;
            for (int farm = 0; farm < FARMS; farm++) {
                for (int level = 0; level < LEVELS; level++) {
                    int room = more[0] - less[0] + (more[1] - less[1]) * level + (more[2] - less[2]) * farm;
                    if (room > 0) {
                        holds |= 1L << place(farm, level, 0) | 1L << place(farm, level, 1);
                    }
                }
            }
            return holds;
        }

        private void take(Thing due) {
            if (thing != due) {
                refuse();
            }
            step();
        }

        /** Behind the first wrong thing all is END: so nothing else is taken, and no later place is told. */
        private void refuse() {
            if (wrong == NONE) {
                wrong = begins[at];
            }
            thing = Thing.END;
        }

        private void step() {
            if (thing != Thing.END && at < TAPE_BYTES) {
                at++;
                thing = things[at];
            }
        }
    }

    // ---- all that is told, as the image keeps it ----

    private static final class Told {
        static final int PRICE = 0;
        static final int LEAST = 1;
        static final int SHARE = 2;
        static final int FINE = 3;
        static final int SEEN = 4;
        static final int RULE_NUMBERS = 5;
        static final int LOWER_TOP = 0;
        static final int LOWER_LEVEL = 1;
        static final int LOWER_WANT = 2;

        int top = 4;
        int leak = NONE;
        final int[] parts = new int[NUMBERS];
        int p = 1;
        int q = 2;
        int farms = 0;
        /** By farm and buckets. */
        final int[] brings = new int[FARMS * NUMBERS];
        final int[] costs = new int[FARMS];
        final int[] goesBy = new int[FARMS];
        int rules = 1;
        int inForce = 0;
        final int[] ruleNumbers = new int[RULES * RULE_NUMBERS];
        int draws = 0;
        /** By draw what the reader tells. */
        final long[] drawn = new long[DRAWS * TOPS * 2];
        int breaks = 0;
        /** By break: year, farm, number. */
        final int[] breakNumbers = new int[BREAKS * 3];
        int rowYears = 0;
        final byte[] rowRains = new byte[TAPE_BYTES];
        /** The lower well; its top is 0 as long as none is told. */
        final int[] beside = new int[3];

        Told() {
            parts[1] = 1;
            ruleNumbers[SHARE] = 3;
        }

        void become(Told other) {
            top = other.top;
            leak = other.leak;
            p = other.p;
            q = other.q;
            farms = other.farms;
            rules = other.rules;
            inForce = other.inForce;
            draws = other.draws;
            breaks = other.breaks;
            rowYears = other.rowYears;
            System.arraycopy(other.parts, 0, parts, 0, parts.length);
            System.arraycopy(other.brings, 0, brings, 0, brings.length);
            System.arraycopy(other.costs, 0, costs, 0, costs.length);
            System.arraycopy(other.goesBy, 0, goesBy, 0, goesBy.length);
            System.arraycopy(other.ruleNumbers, 0, ruleNumbers, 0, ruleNumbers.length);
            System.arraycopy(other.drawn, 0, drawn, 0, drawn.length);
            System.arraycopy(other.breakNumbers, 0, breakNumbers, 0, breakNumbers.length);
            System.arraycopy(other.rowRains, 0, rowRains, 0, rowRains.length);
            System.arraycopy(other.beside, 0, beside, 0, beside.length);
        }

        int addFarm(int one, int two, int three, int cost) {
            int at = farms * NUMBERS;
            brings[at + 1] = one;
            brings[at + 2] = two;
            brings[at + 3] = three;
            costs[farms] = cost;
            goesBy[farms] = NONE;
            farms++;
            return farms - 1;
        }

        int addRule(int price, int least, int share, int fine, int seen) {
            int at = rules * RULE_NUMBERS;
            ruleNumbers[at + PRICE] = price;
            ruleNumbers[at + LEAST] = least;
            ruleNumbers[at + SHARE] = share;
            ruleNumbers[at + FINE] = fine;
            ruleNumbers[at + SEEN] = seen;
            rules++;
            return rules - 1;
        }

        int addDraw(long[] tells) {
            System.arraycopy(tells, 0, drawn, draws * TOPS * 2, TOPS * 2);
            draws++;
            return draws - 1;
        }

        int addBreak(int year, int farm, int number) {
            int at = breaks * 3;
            breakNumbers[at] = year;
            breakNumbers[at + 1] = farm;
            breakNumbers[at + 2] = number;
            breaks++;
            return breaks;
        }

        int allParts() {
            return parts[0] + parts[1] + parts[2] + parts[3];
        }

        int ruleNumber(int rule, int which) {
            return ruleNumbers[rule * RULE_NUMBERS + which];
        }

        /** What a farm wants if it goes by a draw; 0 without one. */
        int numberBy(int draw, int farm, int level, int broken) {
            if (draw < 0 || draw >= draws) {
                return 0;
            }
            int index = (draw * TOPS + top - 1) * 2;
            int place = Reader.place(farm, level, broken);
            return (int) (drawn[index] >>> place & 1 | (drawn[index + 1] >>> place & 1) << 1);
        }
    }

    // ---- one year ----

    /** One year at a level, with all that is told laid out by level; want is set first, then the pump is worked. */
    private static final class Year {
        int top;
        int leak;
        int farms;
        int least;
        int p;
        int q;
        int allParts;
        final int[] parts = new int[NUMBERS];
        /** By farm, level and buckets: four times what the year is worth. */
        final int[] four = new int[FARMS * LEVELS * NUMBERS];
        /** The same without price and fine. */
        final int[] plain = new int[FARMS * LEVELS * NUMBERS];
        /** By broken or not, level and farm. */
        final int[] wanted = new int[2 * LEVELS * FARMS];
        final int[] want = new int[FARMS];
        final int[] got = new int[FARMS];
        /** The level behind draws and leak, ahead of rain. */
        int low;
        boolean leaked;

        void open(Told told) {
            top = told.top;
            leak = told.leak;
            farms = told.farms;
            p = told.p;
            q = told.q;
            allParts = told.allParts();
            System.arraycopy(told.parts, 0, parts, 0, NUMBERS);
            ruleWith(told, told.inForce);
            for (int level = 0; level <= top; level++) {
                for (int farm = 0; farm < farms; farm++) {
                    for (int broken = 0; broken < 2; broken++) {
                        wanted[wantedAt(level, broken) + farm] =
                                told.numberBy(told.goesBy[farm], farm, level, broken);
                    }
                }
            }
        }

        private static int wantedAt(int level, int broken) {
            return (broken * LEVELS + level) * FARMS;
        }

        int wantedBy(int farm, int level, int broken) {
            return wanted[wantedAt(level, broken) + farm];
        }

        /** All want the number as long as it is not broken, then by the draw. */
        void promise(Told told, int number, int draw) {
            for (int level = 0; level <= top; level++) {
                for (int farm = 0; farm < farms; farm++) {
                    wanted[wantedAt(level, 0) + farm] = number;
                    wanted[wantedAt(level, 1) + farm] = told.numberBy(draw, farm, level, 1);
                }
            }
        }

        void ruleWith(Told told, int rule) {
            least = told.ruleNumber(rule, Told.LEAST);
            for (int farm = 0; farm < farms; farm++) {
                priceWith(told, rule, farm, told.costs[farm]);
            }
        }

        void priceWith(Told told, int rule, int farm, int cost) {
            int price = told.ruleNumber(rule, Told.PRICE);
            int share = told.ruleNumber(rule, Told.SHARE);
            int fine = told.ruleNumber(rule, Told.FINE) * told.ruleNumber(rule, Told.SEEN);
            for (int level = 0; level <= top; level++) {
                for (int buckets = 0; buckets < NUMBERS; buckets++) {
                    int at = (farm * LEVELS + level) * NUMBERS + buckets;
                    plain[at] = 4 * (told.brings[farm * NUMBERS + buckets] - buckets * cost * (top - level));
                    four[at] = plain[at] - 4 * buckets * price - Math.max(0, buckets - share) * fine;
                }
            }
        }

        void wish(int level, int broken) {
            System.arraycopy(wanted, wantedAt(level, broken), want, 0, FARMS);
        }

        void pumpBy(int level, int broken) {
            wish(level, broken);
            pump(level);
        }

        void pump(int level) {
            int left = Math.max(0, level - least);
            low = level;
            for (int farm = 0; farm < farms; farm++) {
                got[farm] = Math.min(want[farm], left);
                left -= got[farm];
                low -= got[farm];
            }
            leaked = leak != NONE && low > leak;
            if (leaked) {
                low--;
            }
        }

        int had(int farm, int level) {
            return four[(farm * LEVELS + level) * NUMBERS + got[farm]];
        }

        int hadPlain(int farm, int level) {
            return plain[(farm * LEVELS + level) * NUMBERS + got[farm]];
        }

        int risen(int from, int rain) {
            return Math.min(top, from + rain);
        }

        int partsTo(int to) {
            int found = 0;
            for (int rain = 0; rain < NUMBERS; rain++) {
                found += risen(low, rain) == to ? parts[rain] : 0;
            }
            return found;
        }

        /** Over all parts of rain, what the row says of the levels that are reached. */
        long awaited(long[] row, int offset, int from) {
            long sum = 0;
            for (int rain = 0; rain < NUMBERS; rain++) {
                sum += parts[rain] * row[offset + risen(from, rain)];
            }
            return sum;
        }

        /** Numbers of all farms as one: a lesser one is that which is less for the first farm that differs. */
        void unpack(int way) {
            for (int farm = 0; farm < farms; farm++) {
                want[farm] = numberIn(way, farm);
            }
        }

        int numberIn(int way, int farm) {
            return way >> shiftOf(farm) & 3;
        }

        int shiftOf(int farm) {
            return 2 * (farms - 1 - farm);
        }

        int ways() {
            return 1 << 2 * farms;
        }
    }

    // ---- worth for ever ----

    /**
     * From each level on to which low level the year goes, and what it pays: the worth of all years, exactly. With
     * W the parts from level to level, d = Q times N and p = P, worth is d (d I - p W)^-1 times the pay; the inverse
     * comes of the characteristic polynomial of W (Faddeev and LeVerrier), which needs no fractions, and which
     * stays when P and Q change.
     */
    private static final class Chain {
        private final Year year;
        final int[] low = new int[LEVELS];
        /** By farm and level: four times what the year pays. */
        final int[] pays = new int[FARMS * LEVELS];
        private final long[] coefficients = new long[LEVELS + 1];
        private final long[] matrix = new long[LEVELS * LEVELS];
        private final long[] product = new long[LEVELS * LEVELS];
        private final long[] term = new long[LEVELS];
        private final long[] moved = new long[LEVELS];
        /** By farm and level: four times the worth, over base. */
        final long[] above = new long[FARMS * LEVELS];
        long base = 1;
        long p;
        long d;

        Chain(Year year) {
            this.year = year;
        }

        void follow(int broken) {
            for (int level = 0; level <= year.top; level++) {
                year.pumpBy(level, broken);
                low[level] = year.low;
                for (int farm = 0; farm < year.farms; farm++) {
                    pays[farm * LEVELS + level] = year.had(farm, level);
                }
            }
            shape();
        }

        /** The characteristic polynomial of W, from low alone. */
        void shape() {
            int levels = year.top + 1;
            Arrays.fill(matrix, 0);
            coefficients[0] = 1;
            for (int at = 0; at < levels; at++) {
                matrix[at * LEVELS + at] = 1;
            }
            for (int k = 1; k <= levels; k++) {
                long trace = 0;
                for (int level = 0; level < levels; level++) {
                    multiplyRow(level);
                    trace += product[level * LEVELS + level];
                }
                coefficients[k] = -trace / k;
                System.arraycopy(product, 0, matrix, 0, matrix.length);
                for (int at = 0; at < levels; at++) {
                    matrix[at * LEVELS + at] += coefficients[k];
                }
            }
        }

        private void multiplyRow(int level) {
            for (int to = 0; to <= year.top; to++) {
                long sum = 0;
                for (int rain = 0; rain < NUMBERS; rain++) {
                    sum += year.parts[rain] * matrix[year.risen(low[level], rain) * LEVELS + to];
                }
                product[level * LEVELS + to] = sum;
            }
        }

        /** The lower number for these P and Q. */
        void settle(int newP, int q) {
            p = newP;
            d = (long) q * year.allParts;
            long sum = 0;
            long power = 1;
            for (int k = 0; k <= year.top + 1; k++) {
                sum = sum * d + coefficients[k] * power;
                power *= p;
            }
            base = sum;
        }

        /** The upper numbers of a farm. */
        void solve(int farm) {
            int levels = year.top + 1;
            int row = farm * LEVELS;
            for (int level = 0; level < levels; level++) {
                term[level] = pays[row + level];
                above[row + level] = 0;
            }
            long power = 1;
            for (int k = 1; k <= levels; k++) {
                for (int level = 0; level < levels; level++) {
                    above[row + level] = above[row + level] * d + power * term[level];
                    moved[level] = year.awaited(term, 0, low[level]) + coefficients[k] * pays[row + level];
                }
                System.arraycopy(moved, 0, term, 0, LEVELS);
                power *= p;
            }
            for (int level = 0; level < levels; level++) {
                above[row + level] *= d;
            }
        }

        /** Over base times d: what paying so much now, and going on by this chain from a low level, is worth. */
        long onceElse(int farm, int pay, int from) {
            return pay * base * d + p * year.awaited(above, farm * LEVELS, from);
        }
    }

    /** Who would be first to do else: ahead of being broken, and behind. */
    private static final class Judge {
        private final Year year;
        final Chain ahead;
        final Chain behind;

        Judge(Year year) {
            this.year = year;
            ahead = new Chain(year);
            behind = new Chain(year);
        }

        void follow() {
            ahead.follow(0);
            behind.follow(1);
        }

        int first(int p, int q) {
            settle(ahead, p, q);
            settle(behind, p, q);
            for (int broken = 0; broken < 2; broken++) {
                for (int level = 0; level <= year.top; level++) {
                    for (int farm = 0; farm < year.farms; farm++) {
                        if (wouldElse(farm, level, broken)) {
                            return 100 * broken + 10 * level + farm;
                        }
                    }
                }
            }
            return NONE;
        }

        private void settle(Chain chain, int p, int q) {
            chain.settle(p, q);
            for (int farm = 0; farm < year.farms; farm++) {
                chain.solve(farm);
            }
        }

        private boolean wouldElse(int farm, int level, int broken) {
            Chain told = broken == 0 ? ahead : behind;
            long above = told.above[farm * LEVELS + level];
            year.wish(level, broken);
            int own = year.want[farm];
            for (int number = 0; number < NUMBERS; number++) {
                Chain then = number > own ? behind : told;
                year.want[farm] = number;
                year.pump(level);
                long other = then.onceElse(farm, year.had(farm, level), year.low);
                if (number != own && isMore(other, then.base * then.d, above, told.base)) {
                    return true;
                }
            }
            return false;
        }
    }

    /** Numbers to choose from at each level, and the best ones for ever. */
    private static final class Choice {
        private static final int TURNS = 100000;

        private final Year year;
        final Chain chain;
        private int ways;
        /** By level and way. */
        private final int[] pays = new int[LEVELS * WAYS];
        private final int[] lows = new int[LEVELS * WAYS];
        /** By low level what is awaited behind this year. */
        private final long[] later = new long[LEVELS];
        private final long[] held = new long[LEVELS];
        final int[] chosen = new int[LEVELS];

        Choice(Year year) {
            this.year = year;
            chain = new Chain(year);
        }

        int answerAt(int farm, int level) {
            offerTo(farm);
            settle();
            return chosen[level];
        }

        private void offerTo(int farm) {
            ways = NUMBERS;
            for (int level = 0; level <= year.top; level++) {
                year.wish(level, 0);
                for (int number = 0; number < NUMBERS; number++) {
                    year.want[farm] = number;
                    year.pump(level);
                    pays[level * WAYS + number] = year.had(farm, level);
                    lows[level * WAYS + number] = year.low;
                }
            }
        }

        void offerAll() {
            ways = year.ways();
            for (int level = 0; level <= year.top; level++) {
                for (int way = 0; way < ways; way++) {
                    year.unpack(way);
                    year.pump(level);
                    int together = 0;
                    for (int farm = 0; farm < year.farms; farm++) {
                        together += year.had(farm, level);
                    }
                    pays[level * WAYS + way] = together;
                    lows[level * WAYS + way] = year.low;
                }
            }
        }

        /** Numbers are bettered all at once until none can be; each turn is worth more, so there is a last one. */
        void settle() {
            Arrays.fill(chosen, 0);
            boolean better = true;
            for (int turn = 0; better && turn < TURNS; turn++) {
                evaluate();
                better = improve(false);
            }
            improve(true);
        }

        private void evaluate() {
            for (int level = 0; level <= year.top; level++) {
                int at = level * WAYS + chosen[level];
                chain.low[level] = lows[at];
                chain.pays[level] = pays[at];
            }
            chain.shape();
            chain.settle(year.p, year.q);
            chain.solve(0);
            for (int from = 0; from <= year.top; from++) {
                later[from] = chain.onceElse(0, 0, from);
            }
        }

        /** Each level takes the way worth the most; one that is only as good, but less, waits for the last turn. */
        private boolean improve(boolean evenIfAsGood) {
            boolean better = false;
            for (int level = 0; level <= year.top; level++) {
                long own = chain.above[level] * chain.d;
                int best = bestAt(level, chain.base * chain.d);
                boolean more = valueOf(level, best, chain.base * chain.d) > own;
                if (more || evenIfAsGood) {
                    chosen[level] = best;
                }
                better |= more;
            }
            return better;
        }

        private int bestAt(int level, long scale) {
            int best = 0;
            long most = valueOf(level, 0, scale);
            for (int way = 1; way < ways; way++) {
                long value = valueOf(level, way, scale);
                if (value > most) {
                    best = way;
                    most = value;
                }
            }
            return best;
        }

        private long valueOf(int level, int way, long scale) {
            return pays[level * WAYS + way] * scale + later[lows[level * WAYS + way]];
        }

        /** With k years left all is counted in parts of d to the power of k - 1. */
        int nearAt(int farm, int level, int years) {
            offerTo(farm);
            Arrays.fill(later, 0);
            long d = (long) year.q * year.allParts;
            long scale = 1;
            for (int left = 1; left < years; left++) {
                for (int from = 0; from <= year.top; from++) {
                    held[from] = valueOf(from, bestAt(from, scale), scale);
                }
                for (int from = 0; from <= year.top; from++) {
                    later[from] = year.p * year.awaited(held, 0, from);
                }
                scale *= d;
            }
            return bestAt(level, scale);
        }
    }

    // ---- rests, from the last year back ----

    private static final class Rests {
        /** Where the row of all farms together stands, without price and fine. */
        static final int TOGETHER = FARMS * LEVELS;

        private final Year year;
        /** By farm and level: four times what the years left are worth, over scale. */
        final long[] held = new long[TOGETHER + LEVELS];
        private final long[] later = new long[TOGETHER + LEVELS];
        /** By farm (behind them all together) and way. */
        private final long[] values = new long[(FARMS + 1) * WAYS];
        long scale = 1;
        int chosen;

        Rests(Year year) {
            this.year = year;
        }

        /** Of the last year worked out, the earliest, only the level that is asked for is of any use. */
        void work(int level, int years) {
            Arrays.fill(later, 0);
            scale = 1;
            for (int left = 1; left < years; left++) {
                for (int from = 0; from <= year.top; from++) {
                    workLevel(from);
                }
                for (int row = 0; row <= TOGETHER; row += LEVELS) {
                    for (int from = 0; from <= year.top; from++) {
                        later[row + from] = year.p * year.awaited(held, row, from);
                    }
                }
                scale *= (long) year.q * year.allParts;
            }
            workLevel(level);
        }

        private void workLevel(int level) {
            int ways = year.ways();
            for (int way = 0; way < ways; way++) {
                year.unpack(way);
                year.pump(level);
                value(level, way);
            }
            chosen = 0;
            for (int way = 0; way < ways; way++) {
                if (isAtRest(way)) {
                    chosen = way;
                    break;
                }
            }
            for (int row = 0; row <= FARMS; row++) {
                held[row * LEVELS + level] = values[row * WAYS + chosen];
            }
        }

        private void value(int level, int way) {
            long together = 0;
            for (int farm = 0; farm < year.farms; farm++) {
                values[farm * WAYS + way] = year.had(farm, level) * scale + later[farm * LEVELS + year.low];
                together += year.hadPlain(farm, level);
            }
            values[FARMS * WAYS + way] = together * scale + later[TOGETHER + year.low];
        }

        private boolean isAtRest(int way) {
            for (int farm = 0; farm < year.farms; farm++) {
                int shift = year.shiftOf(farm);
                for (int number = 0; number < NUMBERS; number++) {
                    int other = way & ~(3 << shift) | number << shift;
                    if (values[farm * WAYS + other] > values[farm * WAYS + way]) {
                        return false;
                    }
                }
            }
            return true;
        }
    }

    // ---- all rows of rain ----

    private static final class Rows {
        private final Year year;
        private final long[] held = new long[LEVELS];
        private final long[] fresh = new long[LEVELS];

        Rows(Year year) {
            this.year = year;
        }

        /** Once the level is 0, all rows that may follow count. */
        long runDry(int level, int years) {
            Arrays.fill(held, 0);
            long all = 1;
            for (int left = 1; left <= years; left++) {
                held[0] = all;
                for (int from = 0; from <= year.top; from++) {
                    year.pumpBy(from, 0);
                    fresh[from] = year.awaited(held, 0, year.low);
                }
                System.arraycopy(fresh, 0, held, 0, LEVELS);
                all *= year.allParts;
            }
            return held[level];
        }

        long buckets(int farm, int level, int years) {
            Arrays.fill(held, 0);
            long all = 1;
            for (int left = 1; left <= years; left++) {
                all *= year.allParts;
                for (int from = 0; from <= year.top; from++) {
                    year.pumpBy(from, 0);
                    fresh[from] = year.got[farm] * all + year.awaited(held, 0, year.low);
                }
                System.arraycopy(fresh, 0, held, 0, LEVELS);
            }
            return held[level];
        }
    }

    // ---- a run ----

    private static final class Trip {
        private final Year year;
        private final Told told;
        private int level;
        private int seed;
        private boolean byRow;
        private boolean isBroken;
        private final int[] had = new int[FARMS];
        private int firstDry;
        private int firstBroken;
        private int lower;
        private int folkGot;

        Trip(Year year, Told told) {
            this.year = year;
            this.told = told;
        }

        void begin(int from, int firstSeed, boolean rowTells) {
            level = from;
            seed = firstSeed;
            byRow = rowTells;
            isBroken = false;
            Arrays.fill(had, 0);
            firstDry = NONE;
            firstBroken = NONE;
            lower = told.beside[Told.LOWER_LEVEL];
            folkGot = 0;
        }

        void pass(int at) {
            if (isBroken && firstBroken == NONE) {
                firstBroken = at;
            }
            year.wish(level, isBroken ? 1 : 0);
            boolean breaks = breakBy(at);
            year.pump(level);
            for (int farm = 0; farm < year.farms; farm++) {
                had[farm] += year.had(farm, level);
            }
            passBeside();
            level = year.risen(year.low, rainOf(at));
            if (level == 0 && firstDry == NONE) {
                firstDry = at;
            }
            isBroken |= breaks;
        }

        /** Whether some farm wants more than its draw tells without broken. */
        private boolean breakBy(int at) {
            boolean breaks = false;
            for (int index = 0; index < told.breaks; index++) {
                int farm = told.breakNumbers[index * 3 + 1];
                if (told.breakNumbers[index * 3] == at && farm < year.farms) {
                    year.want[farm] = told.breakNumbers[index * 3 + 2];
                }
            }
            for (int farm = 0; farm < year.farms; farm++) {
                breaks |= year.want[farm] > year.wantedBy(farm, level, 0);
            }
            return breaks;
        }

        private void passBeside() {
            int room = told.beside[Told.LOWER_TOP];
            lower = Math.min(room, lower + (year.leaked ? 1 : 0));
            int drawn = Math.min(told.beside[Told.LOWER_WANT], lower);
            lower -= drawn;
            folkGot += drawn;
        }

        private int rainOf(int at) {
            if (byRow) {
                return at < told.rowYears ? told.rowRains[at] : 0;
            }
            seed = seed * 1103515245 + 12345;
            int place = year.allParts > 0 ? (seed >>> 16 & 0x7fff) % year.allParts : 0;
            int rain = 0;
            while (rain < NUMBERS - 1 && place >= year.parts[rain]) {
                place -= year.parts[rain];
                rain++;
            }
            return rain;
        }

        int tells(int what) {
            switch (what) {
                case 3: return level;
                case 4: return firstDry;
                case 5: return firstBroken;
                case 6: return told.beside[Told.LOWER_TOP] == 0 ? NONE : lower;
                case 7: return folkGot;
                default: return what >= 0 && what < FARMS ? had[what] : 0;
            }
        }
    }
}
