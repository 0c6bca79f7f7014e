import java.util.NoSuchElementException;

/**
 * The document's boundary cases, sentence by sentence: the least and the greatest number that is still taken, the
 * first one beyond on each side, and what it comes to; nothing there yet; full; the int that goes round.
 */
public final class EdgesTest {
    private static final int NONE = WellPumps.NONE;

    private EdgesTest() {
    }

    public static void main(String[] args) {
        levelsToTop();
        leakFromAbove();
        rainOfParts();
        yearsOfPAndQ();
        farmNumbers();
        ruleNumbers();
        besideNumbers();
        spansOfYears();
        breakYears();
        whats();
        tapeOfBytes();
        noFarm();
        noFarmButText();
        noDraw();
        noText();
        noYears();
        noRow();
        lastOfAll();
        imageOfAll();
        imageAgain();
        lastCall();
        seedGoesRound();
        feedOfSigns();
        Check.end("EdgesTest");
    }

    private interface Asked {
        void ask();
    }

    /** Whether it is taken; otherwise it is an IllegalArgumentException, as it must be. */
    private static boolean isTaken(String call, boolean due, Asked asked) {
        boolean taken = true;
        try {
            asked.ask();
        } catch (IllegalArgumentException e) {
            taken = false;
        }
        Check.due(call + " is taken", taken, due);
        return taken;
    }

    private static boolean isIn(int number, int least, int most) {
        return least <= number && number <= most;
    }

    private static WellPumps with(int top, int leak, int farms) {
        WellPumps x = new WellPumps();
        x.well(top, leak);
        for (int farm = 0; farm < farms; farm++) {
            x.farm(10, 20, 30, 0);
        }
        return x;
    }

    // ---- the least and the greatest that is taken ----

    /** LEVELS 0 to TOP (1 to 7): each call that is asked of a level and of a farm. */
    private static void levelsToTop() {
        for (int top = 1; top <= 7; top++) {
            for (int farms = 1; farms <= 3; farms++) {
                for (int level = -1; level <= top + 1; level++) {
                    for (int farm = -1; farm <= farms; farm++) {
                        farmAndLevel(top, farms, farm, level);
                    }
                    levelAlone(top, farms, level);
                }
            }
        }
    }

    private static void farmAndLevel(int top, int farms, int farm, int level) {
        WellPumps x = with(top, NONE, farms);
        boolean due = isIn(farm, 0, farms - 1) && isIn(level, 0, top);
        String at = " of farm " + farm + " at " + level + " of " + top;
        isThere("wants" + at, due, () -> x.wants(farm, level, false, true));
        isThere("gains" + at, due, () -> x.gains(farm, level, false));
        isThere("worth" + at, due, () -> x.worth(farm, level, false, false));
        isThere("answer" + at, due, () -> x.answer(farm, level));
        isThere("near" + at, due, () -> x.near(farm, level, 1));
        isThere("rest" + at, due, () -> x.rest(farm, level, 1));
        isThere("restWorth" + at, due, () -> x.restWorth(farm, level, 1, false));
        isThere("part" + at, due, () -> x.part(farm, level, 1));
        isThere("edge" + at, due, () -> x.edge(farm, level));
        isThere("owner" + at, due, () -> x.owner(farm, level));
        boolean byDue = isIn(farm, 0, farms - 1);
        isThere("by" + at, byDue, () -> x.by(farm, NONE));
        isThere("broken" + at, byDue, () -> x.broken(0, farm, 0));
    }

    private static void levelAlone(int top, int farms, int level) {
        WellPumps x = with(top, NONE, farms);
        boolean due = isIn(level, 0, top);
        String at = " at " + level + " of " + top;
        isThere("next" + at, due, () -> x.next(level, false, 0));
        isThere("next to" + at, due, () -> x.next(0, true, level));
        isThere("owned" + at, due, () -> x.owned(level, false));
        isThere("lost" + at, due, () -> x.lost(level));
        isThere("nearest" + at, due, () -> x.nearest(level, 1));
        isThere("dry" + at, due, () -> x.dry(level, 1));
        isThere("run" + at, due, () -> x.run(level, 1, 0, false, 3));
        isThere("most" + at, due, () -> x.most(level, 1));
        isThere("lasts" + at, due, () -> x.lasts(level));
    }

    private static void isThere(String call, boolean due, Asked asked) {
        boolean there = true;
        try {
            asked.ask();
        } catch (IndexOutOfBoundsException e) {
            there = false;
        }
        Check.due(call + " is there", there, due);
    }

    /** LEAK 0 to 7, or none: from a level above it 1 is lost, from one at it or below nothing. */
    private static void leakFromAbove() {
        for (int top = -1; top <= 9; top++) {
            for (int leak = -2; leak <= 9; leak++) {
                WellPumps x = new WellPumps();
                int askedTop = top;
                int askedLeak = leak;
                boolean taken = isTaken("well(" + top + ", " + leak + ")", isIn(top, 1, 7) && isIn(leak, -1, 7),
                        () -> x.well(askedTop, askedLeak));
                Check.due("TOP", x.count(7), taken ? top : 4);
                x.rain(1, 0, 0, 0);
                for (int level = 0; taken && level <= top; level++) {
                    int low = leak >= 0 && level > leak ? level - 1 : level;
                    Check.due("LEAK " + leak + " at " + level, x.next(level, false, low), 1);
                }
            }
        }
    }

    /** RAIN of 0 to 3, parts of 0 to 4 each, together 1 to 4; above TOP nothing stays. */
    private static void rainOfParts() {
        for (int all = 0; all < 7 * 7 * 7 * 7; all++) {
            int[] w = {all % 7 - 1, all / 7 % 7 - 1, all / 49 % 7 - 1, all / 343 - 1};
            WellPumps x = new WellPumps();
            int n = w[0] + w[1] + w[2] + w[3];
            boolean due = isIn(n, 1, 4);
            for (int part : w) {
                due &= isIn(part, 0, 4);
            }
            boolean taken = isTaken("rain" + java.util.Arrays.toString(w), due, () -> x.rain(w[0], w[1], w[2], w[3]));
            Check.due("N", x.count(6), taken ? n : 1);
            for (int rain = 0; taken && rain <= 3; rain++) {
                Check.due("parts of " + rain, x.next(0, false, rain), w[rain]);
                Check.due("at TOP all stays there", x.next(4, false, rain), 0);
            }
            if (taken) {
                Check.due("at TOP all stays there", x.next(4, false, 4), n);
                Check.due("below TOP no more than one comes", x.next(3, false, 4), n - w[0]);
                Check.due("but for no rain", x.next(3, false, 3), w[0]);
            }
        }
    }

    /** 0 < P < Q <= 5; 10 each year for ever are 10 Q / (Q - P). */
    private static void yearsOfPAndQ() {
        for (int p = -1; p <= 7; p++) {
            for (int q = -1; q <= 7; q++) {
                WellPumps x = with(1, NONE, 1);
                Check.draw(x, "draw 1");
                x.by(0, 0);
                int askedP = p;
                int askedQ = q;
                boolean taken = isTaken("years(" + p + ", " + q + ")", 0 < p && p < q && q <= 5,
                        () -> x.years(askedP, askedQ));
                Frac due = taken ? Frac.of(10L * q, q - p) : Frac.of(20, 1);
                Check.due("above", x.worth(0, 1, false, false), due.above().longValueExact());
                Check.due("below", x.worth(0, 1, false, true), due.below().longValueExact());
            }
        }
    }

    /** 0 to 99 each, COST 0 to 9: it counts for each step below TOP. */
    private static void farmNumbers() {
        int[] edges = {-1, 0, 1, 98, 99, 100};
        for (int buckets = 1; buckets <= 3; buckets++) {
            for (int bring : edges) {
                WellPumps x = new WellPumps();
                int[] b = {0, 50, 50, 50};
                b[buckets] = bring;
                boolean taken = isTaken(buckets + " buckets bring " + bring, isIn(bring, 0, 99),
                        () -> x.farm(b[1], b[2], b[3], 0));
                Check.due("it comes", x.count(0), taken ? 1 : 0);
                if (taken) {
                    Check.draw(x, "draw " + buckets);
                    x.by(0, 0);
                    Check.due("it is so much", x.gains(0, 4, false), 4 * bring);
                }
            }
        }
        for (int cost = -1; cost <= 10; cost++) {
            WellPumps x = new WellPumps();
            x.well(7, NONE);
            int asked = cost;
            if (isTaken("COST " + cost, isIn(cost, 0, 9), () -> x.farm(0, 0, 99, asked))) {
                Check.draw(x, "draw 3");
                x.by(0, 0);
                for (int level = 3; level <= 7; level++) {
                    Check.due("COST at " + level, x.gains(0, level, false), 4 * (99 - 3 * cost * (7 - level)));
                }
                Check.due("at 2 there are 2, which bring nothing", x.gains(0, 2, false), -4 * 2 * cost * 5);
                Check.due("no bucket costs nothing", x.gains(0, 0, false), 0);
            }
        }
    }

    /** PRICE 0 to 9, LEAST 0 to 7, SHARE 0 to 3, FINE 0 to 99, SEEN 0 to 4. */
    private static void ruleNumbers() {
        int[] least = {0, 0, 0, 0, 0};
        int[] greatest = {9, 7, 3, 99, 4};
        for (int which = 0; which < 5; which++) {
            for (int number = -1; number <= greatest[which] + 1; number++) {
                int[] n = {1, 1, 1, 7, 1};
                n[which] = number;
                WellPumps x = with(7, NONE, 1);
                boolean taken = isTaken("rule" + java.util.Arrays.toString(n),
                        isIn(number, least[which], greatest[which]), () -> x.rule(n[0], n[1], n[2], n[3], n[4]));
                Check.due("it comes", x.count(2), taken ? 2 : 1);
                if (taken) {
                    ruled(x, n);
                }
            }
        }
        ruled(with(7, NONE, 1), new int[] {9, 0, 0, 99, 4});
        ruled(with(7, NONE, 1), new int[] {9, 7, 3, 99, 4});
        ruled(with(7, NONE, 1), new int[] {0, 0, 0, 0, 0});
    }

    private static void ruled(WellPumps x, int[] n) {
        int rule = x.rule(n[0], n[1], n[2], n[3], n[4]);
        x.force(rule);
        for (int wanted = 0; wanted <= 3; wanted++) {
            x.by(0, Check.draw(x, "draw " + wanted));
            for (int level = 0; level <= 7; level++) {
                int got = Math.min(wanted, Math.max(0, level - n[1]));
                int over = Math.max(0, got - n[2]);
                String at = " of " + wanted + " at " + level + " by " + java.util.Arrays.toString(n);
                Check.due("got" + at, x.wants(0, level, false, true), got);
                Check.due("gains" + at, x.gains(0, level, false), 4 * (10 * got - n[0] * got) - over * n[3] * n[4]);
                Check.due("left" + at, x.next(level, false, Math.min(7, level - got + 1)), 1);
            }
        }
    }

    /** TOP 1 to 7, LEVEL 0 to it, what they want 0 to 3. */
    private static void besideNumbers() {
        for (int top = -1; top <= 8; top++) {
            for (int level = -1; level <= 8; level++) {
                for (int want = -1; want <= 4; want++) {
                    WellPumps x = new WellPumps();
                    int[] n = {top, level, want};
                    boolean taken = isTaken("beside" + java.util.Arrays.toString(n),
                            isIn(top, 1, 7) && isIn(level, 0, top) && isIn(want, 0, 3),
                            () -> x.beside(n[0], n[1], n[2]));
                    Check.due("a run begins with it", x.run(4, 0, 0, false, 6), taken ? level : NONE);
                    int got = taken ? Math.min(level, want) : 0;
                    Check.due("they get it, or what there is", x.run(4, 1, 0, false, 7), got);
                    Check.due("so much is left", x.run(4, 1, 0, false, 6), taken ? level - got : NONE);
                }
            }
        }
        for (int top = 1; top <= 7; top++) {
            WellPumps x = new WellPumps();
            x.well(7, 0);
            x.rain(1, 0, 0, 0);
            x.beside(top, top, 0);
            Check.due("what is above runs off", x.run(7, 7, 0, false, 6), top);
            x.beside(top, top, 1);
            Check.due("it comes first, then they get", x.run(7, 7, 0, false, 6), top - 1);
            Check.due("one each year", x.run(7, 7, 0, false, 7), 7);
            x.beside(top, top - 1, 0);
            Check.due("one more is taken", x.run(7, 1, 0, false, 6), top);
        }
    }

    /** Years 1 to 8, 0 to 20, 0 to 12, 0 to 100. */
    private static void spansOfYears() {
        for (int asked = -2; asked <= 103; asked++) {
            WellPumps x = with(2, 0, 1);
            int years = asked;
            isTaken("near of " + years, isIn(years, 1, 8), () -> x.near(0, 2, years));
            isTaken("rest of " + years, isIn(years, 1, 8), () -> x.rest(0, 2, years));
            isTaken("restWorth of " + years, isIn(years, 1, 8), () -> x.restWorth(0, 2, years, true));
            isTaken("nearest of " + years, isIn(years, 1, 8), () -> x.nearest(2, years));
            isTaken("dry of " + years, isIn(years, 0, 20), () -> x.dry(2, years));
            isTaken("part of " + years, isIn(years, 0, 12), () -> x.part(0, 2, years));
            isTaken("most of " + years, isIn(years, 0, 12), () -> x.most(2, years));
            isTaken("run of " + years, isIn(years, 0, 100), () -> x.run(2, years, 1, true, 0));
        }
    }

    /** A break in a year of 0 to 99, by a number of 0 to 3. */
    private static void breakYears() {
        for (int year = -1; year <= 100; year++) {
            WellPumps x = with(7, NONE, 1);
            x.rain(0, 0, 0, 1);
            int asked = year;
            boolean taken = isTaken("a break in " + year, isIn(year, 0, 99), () -> x.broken(asked, 0, 3));
            Check.due("there is one", x.count(4), taken ? 1 : 0);
            if (taken) {
                Check.due("not before " + year, x.run(7, year, 0, false, 0), 0);
                Check.due("in " + year, x.run(7, year + 1, 0, false, 0), 4 * 30);
                Check.due("in this year alone", x.run(7, 100, 0, false, 0), 4 * 30);
                Check.due("the year behind is broken", x.run(7, 100, 0, false, 5), year < 99 ? year + 1 : NONE);
                Check.due("the year itself is not", x.run(7, year + 1, 0, false, 5), NONE);
            }
        }
        for (int number = -1; number <= 4; number++) {
            WellPumps x = with(7, NONE, 1);
            int asked = number;
            if (isTaken("a break by " + number, isIn(number, 0, 3), () -> x.broken(0, 0, asked))) {
                Check.due("it is so many", x.run(7, 1, 0, false, 0), 40 * number);
            }
        }
    }

    /** What 0 to 7 of a run, 0 to 8 of a count. */
    private static void whats() {
        for (int what = -3; what <= 12; what++) {
            WellPumps x = with(4, 2, 3);
            int asked = what;
            boolean there = true;
            try {
                x.run(4, 1, 0, false, asked);
            } catch (NoSuchElementException e) {
                there = false;
            }
            Check.due("run has a " + what, there, isIn(what, 0, 7));
            Check.due("count has a " + what, x.count(what) != NONE, isIn(what, 0, 8));
        }
    }

    /** As many as 400 bytes; the first n alone. */
    private static void tapeOfBytes() {
        for (int left = 0; left <= 400; left += left == 379 ? 1 : 21) {
            WellPumps x = fullTape();
            Check.due("end(" + left + ")", x.end(left), true);
            Check.due("end of one more", x.end(left + 1), false);
            Check.due("feed behind " + left, x.feed(3, 3, 3, 3, 3), left <= 380 ? left + 20 : NONE);
            int length = left <= 380 ? left + 20 : left;
            Check.due("no more came", x.end(length + 1), false);
            Check.due("so much is there", x.end(length), true);
            Check.due("a year of each byte", x.row(), length);
            Check.due("it is used up", x.end(1), false);
            Check.due("nothing is there", x.end(0), true);
        }
        WellPumps x = fullTape();
        for (int left : new int[] {401, 420, Integer.MAX_VALUE, -1, Integer.MIN_VALUE}) {
            Check.due("end(" + left + ") of 400", x.end(left), false);
        }
        for (int left : new int[] {381, 399, 380}) {
            WellPumps y = fullTape();
            y.end(left);
            Check.due("feed behind " + left, y.feed(1, 1, 1, 1, 1), left == 380 ? 400 : NONE);
        }
        Check.due("all 400 are there", x.row(), 400);
    }

    private static WellPumps fullTape() {
        WellPumps x = new WellPumps();
        for (int times = 1; times <= 20; times++) {
            Check.due("feed " + times, x.feed(0, 0x01010101, 0x02020202, 0x03030303, 0x00010203), 20 * times);
        }
        Check.due("feed of a full one", x.feed(0, 0, 0, 0, 0), NONE);
        return x;
    }

    // ---- nothing there yet ----

    private static void noFarm() {
        WellPumps x = new WellPumps();
        Check.draw(x, "draw 3");
        for (int level = 0; level <= 4; level++) {
            int at = level;
            Check.index("owner", () -> x.owner(0, at));
            Check.due("owned above", x.owned(level, false), 0);
            Check.due("owned below", x.owned(level, true), 1);
            Check.due("lost", x.lost(level), 0);
            Check.due("nearest", x.nearest(level, 8), 0);
            Check.due("dry", x.dry(level, 20), 0);
            Check.due("most", x.most(level, 12), NONE);
            Check.due("lasts", x.lasts(level), level == 0 ? 0 : NONE);
            Check.due("the rain comes", x.next(level, true, Math.min(4, level + 1)), 1);
            int[] run = {0, 0, 0, Math.min(4, level + 2), NONE, NONE, NONE, 0};
            for (int what = 0; what <= 7; what++) {
                Check.due("run, " + what, x.run(level, 2, 5, false, what), run[what]);
            }
        }
        Check.due("judge", x.judge(), NONE);
        Check.due("weak", x.weak(), NONE);
        Check.due("pacts", x.pacts(0), 15);
        Check.due("all levels are without a wish", x.count(8), 5);
        Check.index("by", () -> x.by(0, 0));
        Check.index("broken", () -> x.broken(0, 0, 0));
        Check.index("answer", () -> x.answer(0, 0));
        Check.index("rest", () -> x.rest(0, 0, 1));
    }

    private static void noFarmButText() {
        WellPumps x = new WellPumps();
        x.rain(4, 0, 0, 0);
        Check.due("from 0 it is dry at each end", x.dry(0, 20), 1L << 40);
        Check.due("in the first year", x.run(0, 1, 0, false, 4), 0);
        x.well(1, 0);
        Check.due("the leak alone", x.lasts(1), 1);
        Check.due("the leak alone", x.dry(1, 20), 1L << 40);
        Check.due("the leak alone", x.run(1, 9, 0, false, 4), 0);
    }

    private static void noDraw() {
        WellPumps x = with(4, NONE, 3);
        for (int draw : new int[] {0, 1, -2}) {
            Check.index("by " + draw, () -> x.by(0, draw));
        }
        for (int draw : new int[] {0, NONE}) {
            Check.index("pacts of " + draw, () -> x.pacts(draw));
        }
        for (int farm = 0; farm < 3; farm++) {
            Check.due("none is no other", x.by(farm, NONE), false);
            Check.due("it wants nothing", x.wants(farm, 4, false, false), 0);
            Check.due("broken it wants nothing", x.wants(farm, 4, true, false), 0);
            Check.due("it gets nothing", x.wants(farm, 4, true, true), 0);
            Check.due("that is worth nothing", x.gains(farm, 4, false), 0);
            Check.due("for ever", x.worth(farm, 4, false, false), 0);
            Check.due("over 1", x.worth(farm, 4, false, true), 1);
            Check.due("part", x.part(farm, 4, 12), 0);
        }
        Check.due("all lose what one owner had", x.lost(4) > 0, true);
        Check.due("the least of those who get nothing", x.most(4, 12), 0);
        Check.due("the first would want something at 1", x.judge(), 10);
        Check.due("by whatever P / Q", x.weak(), 450);
        x.broken(0, 2, 1);
        Check.due("to want anything is more than nothing", x.run(4, 2, 0, false, 5), 1);
    }

    /** An empty text, and blanks alone, have no line. */
    private static void noText() {
        for (int blanks = 0; blanks <= 400; blanks += blanks < 2 ? 1 : 199) {
            WellPumps x = with(4, NONE, 1);
            Check.due(blanks + " blanks are a draw", Check.draw(x, " ".repeat(blanks)), 0);
            Check.due("it is right", x.fault(), NONE);
            Check.due("it is one", x.count(1), 1);
            Check.due("to go by it is another", x.by(0, 0), true);
            Check.due("it wants nothing", x.wants(0, 4, false, false), 0);
            Check.due("broken it wants nothing", x.wants(0, 4, true, false), 0);
            Check.due("one with a line is another", Check.draw(x, "draw 1"), 1);
        }
    }

    private static void noYears() {
        WellPumps x = with(4, 0, 2);
        Check.draw(x, "draw 1");
        x.by(1, 0);
        x.rain(4, 0, 0, 0);
        x.broken(0, 0, 3);
        x.beside(3, 2, 1);
        for (int level = 0; level <= 4; level++) {
            Check.due("no row has a dry year", x.dry(level, 0), 0);
            Check.due("no bucket", x.part(1, level, 0), 0);
            Check.due("the least of those who get nothing", x.most(level, 0), 0);
            int[] run = {0, 0, 0, level, NONE, NONE, 2, 0};
            for (int what = 0; what <= 7; what++) {
                Check.due("run by seed, " + what, x.run(level, 0, 5, false, what), run[what]);
                Check.due("run by row, " + what, x.run(level, 0, 5, true, what), run[what]);
            }
        }
        Check.due("one year", x.most(4, 1), 1);
        Check.due("lasts from 0", x.lasts(0), 0);
    }

    /** Without a row, and behind it, rain is 0. */
    private static void noRow() {
        WellPumps x = new WellPumps();
        x.rain(0, 0, 0, 1);
        Check.due("no years of a row", x.count(5), 0);
        Check.due("it does not rain", x.run(1, 100, 0, true, 3), 1);
        Check.due("an empty row", x.row(), 0);
        Check.due("it does not rain", x.run(1, 100, 0, true, 3), 1);
        Check.feed(x, new byte[] {0, 1, 2});
        Check.due("three years", x.row(), 3);
        int[] levels = {1, 1, 2, 4, 4, 4};
        for (int years = 0; years < levels.length; years++) {
            Check.due("rain of the row, " + years, x.run(1, years, 0, true, 3), levels[years]);
            Check.due("rain by seed is another", x.run(1, years, 0, false, 3), Math.min(4, 1 + 3 * years));
        }
        Check.due("dry behind it too", x.run(0, 100, 0, true, 4), 0);
        Check.due("an empty row in place of it", x.row(), 0);
        Check.due("no years of a row", x.count(5), 0);
        Check.due("it does not rain", x.run(1, 100, 0, true, 3), 1);
        Check.feed(x, "3".repeat(400));
        Check.argument("digits are no rain", x::row);
        Check.due("no years of a row", x.count(5), 0);
        byte[] most = new byte[400];
        most[99] = 3;
        most[100] = 3;
        Check.feed(x, most);
        Check.due("a row of 400", x.row(), 400);
        Check.due("400 years", x.count(5), 400);
        Check.due("no rain in 99 years", x.run(0, 99, 0, true, 3), 0);
        Check.due("rain in the hundredth", x.run(0, 100, 0, true, 3), 3);
    }

    // ---- full ----

    /** The third farm, the fifth rule, the sixth draw and the sixth break are as good as the first ones. */
    private static void lastOfAll() {
        WellPumps x = new WellPumps();
        for (int farm = 0; farm < 3; farm++) {
            Check.due("farm " + farm, x.farm(10 + farm, 20 + farm, 30 + farm, farm), farm);
            Check.due("farms", x.count(0), farm + 1);
        }
        for (int rule = 1; rule < 5; rule++) {
            Check.due("rule " + rule, x.rule(rule, 0, 3, 0, 0), rule);
            Check.due("rules", x.count(2), rule + 1);
            Check.due("not in force yet", x.count(3), 0);
        }
        for (int draw = 0; draw < 6; draw++) {
            Check.due("draw " + draw, Check.draw(x, "draw " + draw % 4 + " if not broken; draw 3"), draw);
            Check.due("draws", x.count(1), draw + 1);
        }
        for (int times = 1; times <= 6; times++) {
            Check.due("break " + times, x.broken(times, 2, times % 2 == 0 ? 0 : 1), times);
            Check.due("breaks", x.count(4), times);
        }
        Check.due("a seventh break", x.broken(9, 2, 3), NONE);
        Check.due("breaks", x.count(4), 6);
        for (int draw = 0; draw < 6; draw++) {
            Check.due("to go by " + draw, x.by(2, draw), true);
            Check.due("it tells", x.wants(2, 4, false, false), draw % 4);
            Check.due("broken it tells", x.wants(2, 4, true, false), 3);
        }
        x.by(2, 1);
        for (int rule = 0; rule < 5; rule++) {
            Check.due("force " + rule, x.force(rule), rule > 0);
            Check.due("its price", x.gains(2, 4, false), 4 * (12 - rule));
        }
        x.force(0);
        // one each year but in the years 2, 4 and 6, in which it wants nothing
        Check.due("all breaks count", x.run(4, 9, 0, false, 2), 4 * 12 * 6);
        Check.due("none of them is more", x.run(4, 9, 0, false, 5), NONE);
    }

    /** The image of as much as there may be. */
    private static void imageOfAll() {
        WellPumps x = new WellPumps();
        x.image();
        for (int farm = 0; farm < 3; farm++) {
            x.farm(farm, 99, 99, 0);
        }
        for (int rule = 1; rule < 5; rule++) {
            x.rule(9, 0, 3, 0, 0);
        }
        for (int draw = 0; draw < 6; draw++) {
            Check.draw(x, "draw 3");
        }
        for (int times = 0; times < 6; times++) {
            x.broken(times, 0, 3);
        }
        Check.feed(x, new byte[400]);
        x.row();
        Check.due("back", x.back(), true);
        int[] due = {0, 0, 1, 0, 0, 0, 1, 4, 5};
        for (int what = 0; what <= 8; what++) {
            Check.due("nothing but what was there, " + what, x.count(what), due[what]);
        }
        // all that was full has room again
        Check.due("farm", x.farm(7, 8, 9, 1), 0);
        Check.due("it goes by none", x.by(0, NONE), false);
        Check.due("rule", x.rule(3, 0, 3, 0, 0), 1);
        Check.due("draw", Check.draw(x, "draw 2"), 0);
        Check.due("break", x.broken(0, 0, 1), 1);
        Check.due("it goes by another", x.by(0, 0), true);
        Check.due("the numbers of now", x.gains(0, 3, false), 4 * (8 - 2));
        x.force(1);
        Check.due("the rule of now", x.gains(0, 4, false), 4 * (8 - 6));
        Check.due("the break of now", x.run(4, 1, 0, true, 0), 4 * (7 - 3));
        Check.due("no break of then", x.run(4, 2, 0, true, 0), 4 * (7 - 3) + 4 * (8 - 2 - 6));
    }

    /** One image: a later one takes its place, and one may go back to it as often as one will. */
    private static void imageAgain() {
        WellPumps x = new WellPumps();
        Check.due("no image", x.back(), false);
        x.well(5, NONE);
        x.image();
        x.well(6, NONE);
        x.image();
        x.well(7, NONE);
        for (int times = 0; times < 3; times++) {
            Check.due("back", x.back(), true);
            Check.due("to the later one", x.count(7), 6);
            x.well(1, 0);
        }
        Check.feed(x, new byte[] {2, 2, 2});
        x.row();
        x.image();
        Check.feed(x, new byte[] {1, 0, 3, 3});
        x.row();
        x.back();
        x.well(7, NONE);
        Check.due("the row of then", x.run(0, 2, 0, true, 3), 4);
        Check.due("and its length", x.run(0, 4, 0, true, 3), 6);
    }

    /** The 512th call is answered as any other. */
    private static void lastCall() {
        WellPumps x = new WellPumps();
        x.farm(10, 15, 18, 1);
        x.farm(10, 15, 18, 1);
        x.feed(0x64726177, 0x20310000, 0, 0, 0);
        x.end(6);
        x.draw();
        x.by(0, 0);
        x.by(1, 0);
        for (int calls = 8; calls <= 511; calls++) {
            Check.due("call " + calls, x.nearest(4, 8), 0);
        }
        // at 4, 3 and 2 the second farm gets one too, at 1 the first alone
        Check.due("call 512", x.part(1, 4, 12), 3);
    }

    // ---- the int that goes round ----

    /** Each year SEED is 1103515245 times SEED and 12345; its bits 16 to 30 modulo N tell the part. */
    private static void seedGoesRound() {
        int[][] parts = {{1, 0, 0, 0}, {1, 1, 0, 0}, {0, 1, 0, 1}, {1, 1, 1, 0}, {2, 0, 1, 0}, {1, 1, 1, 1},
            {0, 2, 0, 2}, {3, 0, 0, 1}, {0, 0, 0, 4}, {0, 0, 1, 1}};
        int[] seeds = {0, 1, -1, 2, 65535, 65536, -65536, 1 << 30, 1 << 31, (1 << 31) - 1, 12345, -12345, 20261120};
        for (int[] w : parts) {
            for (int seed : seeds) {
                WellPumps x = with(7, NONE, 1);
                x.rain(w[0], w[1], w[2], w[3]);
                Check.draw(x, "draw 3 if level > 3");
                x.by(0, 0);
                long state = Math.floorMod((long) seed, 1L << 32);
                int level = 2;
                for (int years = 1; years <= 12; years++) {
                    state = (state * 1103515245L + 12345L) % (1L << 32);
                    int part = (int) (state / 65536 % 32768 % (w[0] + w[1] + w[2] + w[3]));
                    level = Math.min(7, level - (level > 3 ? 3 : 0) + rainOf(w, part));
                    Check.due("seed " + seed + ", " + years, x.run(2, years, seed, false, 3), level);
                }
            }
        }
    }

    private static int rainOf(int[] w, int part) {
        int rain = 0;
        int left = part;
        while (left >= w[rain]) {
            left -= w[rain];
            rain++;
        }
        return rain;
    }

    /** Of each number the highest byte comes first, whatever its sign. */
    private static void feedOfSigns() {
        WellPumps x = new WellPumps();
        x.well(7, NONE);
        x.feed(0x03020100, 0x00010203, 0x01000000, 0x00000001, 0x02000002);
        Check.due("twenty years", x.row(), 20);
        int[] rain = {3, 2, 1, 0, 0, 1, 2, 3, 1, 0, 0, 0, 0, 0, 0, 1, 2, 0, 0, 2};
        Check.draw(x, "draw 3");
        x.farm(1, 2, 3, 0);
        x.by(0, 0);
        int level = 0;
        for (int years = 1; years <= 20; years++) {
            level = level - Math.min(3, level) + rain[years - 1];
            Check.due("year " + years, x.run(0, years, 0, true, 3), level);
        }
        int[] signed = {-1, Integer.MIN_VALUE, 0x80000000, 0xff000000, 0x000000ff, 0x00ff0000, 0x0000ff00};
        for (int number : signed) {
            for (int at = 0; at < 5; at++) {
                int[] n = {0, 0, 0, 0, 0};
                n[at] = number;
                WellPumps y = new WellPumps();
                Check.due("twenty bytes", y.feed(n[0], n[1], n[2], n[3], n[4]), 20);
                Check.argument("a byte of 128 or 255", y::row);
            }
        }
    }
}
