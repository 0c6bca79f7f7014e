/**
 * The boundary cases of what is worked out: shares of what is left, fractions, gains that are none, the least of
 * several, rounding, the least and the most years, pacts of 0 and of 3, costs next to one another, first and last
 * years of a run.
 */
public final class WorthEdgesTest {
    private static final int NONE = WellPumps.NONE;
    private static final int[][] WEIGHTS = {{4, 5}, {3, 4}, {2, 3}, {3, 5}, {1, 2}, {2, 5}, {1, 3}, {1, 4}, {1, 5}};

    private WorthEdgesTest() {
    }

    public static void main(String[] args) {
        whatIsLeft();
        fractions();
        greatestFractions();
        noFraction();
        judgeOrder();
        judgeFirstAndLast();
        judgeMoreAndLess();
        judgeAsMuch();
        leastOfSeveral();
        leastForOwner();
        lostRounded();
        nearYears();
        nearAsGood();
        restYears();
        restLeast();
        nearestLeast();
        nearestYears();
        pactsOfEach();
        weakOfEach();
        dryYears();
        partAndMost();
        edges();
        lastsYears();
        runYears();
        brokenYears();
        brokenForEver();
        noWish();
        Check.end("WorthEdgesTest");
    }

    private static WellPumps with(int top, int leak) {
        WellPumps x = new WellPumps();
        x.well(top, leak);
        return x;
    }

    /** A farm that goes by a text of its own. */
    private static void farm(WellPumps x, int one, int two, int three, int cost, String text) {
        int farm = x.farm(one, two, three, cost);
        x.by(farm, Check.draw(x, text));
    }

    private static Frac worth(WellPumps x, int farm, int level, boolean broken) {
        return told(x.worth(farm, level, broken, false), x.worth(farm, level, broken, true));
    }

    private static Frac owned(WellPumps x, int level) {
        return told(x.owned(level, false), x.owned(level, true));
    }

    private static Frac restWorth(WellPumps x, int farm, int level, int years) {
        return told(x.restWorth(farm, level, years, false), x.restWorth(farm, level, years, true));
    }

    /** The lower one is above 0, and there is no common part. */
    private static Frac told(long above, long below) {
        Check.due("the lower number " + below + " is above 0", below > 0, true);
        Frac frac = Frac.of(above, below);
        Check.due("below without a common part", below, frac.below().longValueExact());
        return frac;
    }

    private static void due(String call, Frac got, Frac want) {
        Check.due(call, got.above() + "/" + got.below(), want.above() + "/" + want.below());
    }

    /** One and so many powers of a fraction behind it, so many in all. */
    private static Frac sumOf(int p, int q, int years) {
        Frac sum = Frac.ZERO;
        Frac power = Frac.ONE;
        for (int year = 0; year < years; year++) {
            sum = sum.plus(power);
            power = power.times(Frac.of(p, q));
        }
        return sum;
    }

    // ---- one year ----

    /** LEVEL less LEAST, 0 at least, less what those before got; then LEAK if it is above it then; then RAIN. */
    private static void whatIsLeft() {
        for (int least = 0; least <= 7; least++) {
            for (int wants = 0; wants < 64; wants++) {
                int[] want = {wants / 16, wants / 4 % 4, wants % 4};
                int leak = wants % 9 - 1;
                WellPumps x = with(7, leak);
                x.rain(1, 0, 1, 0);
                for (int number : want) {
                    farm(x, 10, 20, 30, 0, "draw " + number);
                }
                x.rule(0, least, 3, 0, 0);
                x.force(1);
                for (int level = 0; level <= 7; level++) {
                    String at = " at " + level + " by LEAST " + least + " and " + java.util.Arrays.toString(want);
                    int left = Math.max(0, level - least);
                    int low = level;
                    for (int farm = 0; farm < 3; farm++) {
                        int got = Math.min(want[farm], left);
                        left -= got;
                        low -= got;
                        Check.due("got" + at, x.wants(farm, level, false, true), got);
                    }
                    low -= leak != NONE && low > leak ? 1 : 0;
                    Check.due("no rain" + at, x.next(level, true, low), low == 7 ? 2 : 1);
                    Check.due("rain" + at, x.next(level, true, Math.min(7, low + 2)), low == 7 ? 2 : 1);
                }
            }
        }
    }

    // ---- worth ----

    /** The worth from each level on is what the year is worth and P / Q of what is awaited, exactly. */
    private static void fractions() {
        int[][] rains = {{0, 1, 0, 0}, {1, 1, 0, 0}, {1, 1, 1, 0}, {1, 1, 1, 1}, {3, 0, 0, 1}, {2, 1, 0, 1}, {4, 0, 0, 0}};
        for (int top = 1; top <= 7; top++) {
            for (int[] w : rains) {
                for (int[] pq : WEIGHTS) {
                    WellPumps x = with(top, 2);
                    x.rain(w[0], w[1], w[2], w[3]);
                    x.years(pq[0], pq[1]);
                    farm(x, 97, 98, 99, 0, "draw 3 if level > 3; draw 1 if level > 0 and not broken; draw 2");
                    x.rule(9, 0, 0, 99, 3);
                    x.force(1);
                    for (int broken = 0; broken < 2; broken++) {
                        equation(x, top, broken == 1, Frac.of(pq[0], pq[1]));
                    }
                }
            }
        }
    }

    private static void equation(WellPumps x, int top, boolean broken, Frac weight) {
        Frac[] worths = new Frac[top + 1];
        for (int level = 0; level <= top; level++) {
            worths[level] = worth(x, 0, level, broken);
        }
        for (int level = 0; level <= top; level++) {
            Frac due = Frac.of(x.gains(0, level, broken), 4);
            for (int to = 0; to <= top; to++) {
                Frac chance = Frac.of(x.next(level, broken, to), x.count(6));
                due = due.plus(weight.times(chance).times(worths[to]));
            }
            due("worth at " + level + " of " + top, worths[level], due);
        }
    }

    /** TOP 7 and 4 / 5: eight levels that all lead to others, above 0 and below. */
    private static void greatestFractions() {
        for (int rule = 0; rule < 2; rule++) {
            WellPumps x = with(7, NONE);
            x.rain(1, 0, 2, 0);
            x.years(4, 5);
            farm(x, 98, 98, 98, 9, "draw 1");
            x.rule(9, 0, 0, 99, 4);
            x.force(rule);
            equation(x, 7, false, Frac.of(4, 5));
            equation(x, 7, true, Frac.of(4, 5));
            Check.due("its sign", x.worth(0, 7, false, false) > 0, rule == 0);
            Check.due("it is told in great numbers", x.worth(0, 7, false, true), 13920771);
        }
    }

    /** Nothing is 0 over 1; a whole number is over 1. */
    private static void noFraction() {
        WellPumps x = with(7, NONE);
        farm(x, 0, 0, 0, 0, "draw 3");
        farm(x, 99, 99, 99, 0, "draw 1 if broken");
        for (int level = 0; level <= 7; level++) {
            due("nothing", worth(x, 0, level, false), Frac.ZERO);
            due("nothing", worth(x, 1, level, false), Frac.ZERO);
            due("nothing in eight years", restWorth(x, 0, level, 8), Frac.ZERO);
            due("nothing in a year at 0", restWorth(x, 1, 0, 1), Frac.ZERO);
        }
        x.rain(4, 0, 0, 0);
        due("the owner has nothing where nothing is", owned(x, 0), Frac.ZERO);
        due("of one bucket it has 99", owned(x, 1), Frac.of(99, 1));
        Check.due("all of it is lost", x.lost(1), 99);
        Check.due("nothing is lost where nothing is", x.lost(0), 0);
    }

    // ---- judge ----

    /**
     * First not BROKEN, then BROKEN; LEVEL by LEVEL from 0 on, FARM by FARM. TOP is 3 and rain too: the level is
     * always 3 again. Each farm wants a bucket but at one level (9: at all); there it would gain, if those before it
     * leave one.
     */
    private static void judgeOrder() {
        int[] idle = {1, 2, 3, 9};
        for (int all = 0; all < 64; all++) {
            int[] at = {idle[all / 16], idle[all / 4 % 4], idle[all % 4]};
            for (int broken = 0; broken < 2; broken++) {
                WellPumps x = with(3, NONE);
                x.rain(0, 0, 0, 1);
                String when = broken == 0 ? "" : " and broken";
                for (int level : at) {
                    farm(x, 10, 10, 10, 0, "draw 0 if level + 1 > " + level + " and level < " + (level + 1) + when
                            + "; draw 1");
                }
                int first = firstIdle(at);
                Check.due("the first of " + java.util.Arrays.toString(at) + when, x.judge(),
                        first == NONE ? NONE : first + (broken == 1 ? 100 : 0));
            }
        }
        WellPumps x = with(3, NONE);
        x.rain(0, 0, 0, 1);
        farm(x, 10, 10, 10, 0, "draw 0 if broken; draw 1");
        farm(x, 10, 10, 10, 0, "draw 0 if level > 2; draw 1");
        Check.due("not broken is first, by a later level and farm", x.judge(), 31);
        x.by(1, 0);
        Check.due("then broken, from the first level and farm on", x.judge(), 110);
    }

    private static int firstIdle(int[] at) {
        for (int level = 1; level <= 3; level++) {
            int taken = 0;
            for (int farm = 0; farm < at.length; farm++) {
                if (at[farm] == level && taken < level) {
                    return 10 * level + farm;
                }
                taken += at[farm] == level ? 0 : 1;
            }
        }
        return NONE;
    }

    /** From 0 at level 0 of farm 0 to 172. */
    private static void judgeFirstAndLast() {
        WellPumps x = with(1, NONE);
        farm(x, 10, 10, 10, 0, "draw 1 if broken");
        Check.due("to break is a gain, at level 0 too", x.judge(), 0);
        Check.due("whatever P / Q", x.weak(), 450);
        WellPumps y = with(7, NONE);
        farm(y, 0, 0, 0, 0, "");
        farm(y, 0, 0, 0, 0, "");
        farm(y, 10, 10, 10, 0, "draw 0 if broken and level > 6; draw 1");
        Check.due("the last of all", y.judge(), 172);
        WellPumps z = with(7, NONE);
        farm(z, 0, 0, 0, 0, "");
        farm(z, 0, 0, 0, 0, "");
        farm(z, 10, 10, 10, 0, "draw 0 if level > 6; draw 1");
        Check.due("the last that is not broken", z.judge(), 72);
        WellPumps w = with(7, NONE);
        farm(w, 10, 10, 10, 0, "draw 0 if broken and level < 2; draw 1");
        Check.due("the first that is broken and has something", w.judge(), 110);
        WellPumps v = with(7, NONE);
        farm(v, 10, 10, 10, 0, "draw 0 if broken and level < 2 or not broken and level > 6; draw 1");
        Check.due("not broken is ahead, be the level above", v.judge(), 70);
    }

    /** To want more breaks, be it got or not; to want less does not. */
    private static void judgeMoreAndLess() {
        WellPumps x = with(2, NONE);
        farm(x, 10, 10, 10, 9, "draw 1 if not broken");
        // at 1 one bucket each year is 2 for ever; to wait once is 10 in the end, if nothing breaks by it
        Check.due("to wait is a gain: it does not break", x.judge(), 10);
        WellPumps y = with(2, NONE);
        farm(y, 10, 10, 10, 0, "draw 1 if not broken or level > 1");
        Check.due("broken it loses at 1", y.judge(), 110);
        WellPumps z = with(2, NONE);
        farm(z, 10, 29, 29, 0, "draw 1 if not broken");
        // 20 for ever of one each year; two at once are 29, and nothing for ever: a gain
        Check.due("29 are more than 20", z.judge(), 20);
        WellPumps w = with(2, NONE);
        farm(w, 10, 19, 19, 0, "draw 1 if not broken");
        Check.due("19 are not, but broken it would take one", w.judge(), 110);
    }

    /** Only what is more is a gain. */
    private static void judgeAsMuch() {
        WellPumps x = with(2, NONE);
        // at 2: one each year is 20; two at once are 20 and one each year from 1 on is 10: of 15 that is 25
        farm(x, 10, 10, 10, 0, "draw 1");
        Check.due("two bring no more", x.judge(), NONE);
        int[][] due = {{14, NONE}, {15, NONE}, {16, 20}};
        for (int[] d : due) {
            WellPumps y = with(2, NONE);
            y.rain(1, 0, 0, 0);
            // without rain: at 2 one now and one in a year are 10 and 5
            farm(y, 10, d[0], d[0], 0, "draw 1");
            Check.due("two at once for " + d[0], y.judge(), d[1]);
        }
        WellPumps z = with(1, NONE);
        farm(z, 0, 0, 0, 0, "draw 1 if not broken; draw 3");
        Check.due("nothing is as much as nothing", z.judge(), NONE);
    }

    // ---- the best numbers, of several the least ----

    private static void leastOfSeveral() {
        int[][] due = {{0, 0, 0, 0}, {1, 1, 1, 1}, {1, 0, 0, 1}, {0, 1, 1, 2}, {1, 2, 2, 2}, {1, 2, 3, 3}, {0, 0, 1, 3},
            {2, 2, 1, 1}, {1, 2, 1, 2}, {99, 99, 99, 1}};
        for (int[] d : due) {
            WellPumps x = with(3, NONE);
            x.rain(0, 0, 0, 1);
            x.farm(d[0], d[1], d[2], 0);
            String at = " of " + java.util.Arrays.toString(d);
            Check.due("answer" + at, x.answer(0, 3), d[3]);
            Check.due("owner" + at, x.owner(0, 3), d[3]);
            for (int years = 1; years <= 8; years++) {
                Check.due("near" + at, x.near(0, 3, years), d[3]);
                Check.due("rest" + at, x.rest(0, 3, years), d[3]);
            }
            for (int level = 0; level < 3; level++) {
                int best = 0;
                for (int number = 1; number <= level; number++) {
                    best = d[number - 1] > (best == 0 ? 0 : d[best - 1]) ? number : best;
                }
                Check.due("answer at " + level + at, x.answer(0, level), best);
                Check.due("near at " + level + at, x.near(0, level, 3), best);
                Check.due("rest at " + level + at, x.rest(0, level, 3), best);
                Check.due("owner at " + level + at, x.owner(0, level), best);
            }
        }
    }

    /** The least of the first FARM, then of the second one, then of the third. */
    private static void leastForOwner() {
        int[][] due = {{10, 10, 10, 0, 0, 1}, {10, 10, 9, 0, 1, 0}, {10, 9, 9, 1, 0, 0}, {9, 10, 10, 0, 0, 1},
            {9, 10, 9, 0, 1, 0}, {10, 9, 10, 0, 0, 1}, {0, 0, 0, 0, 0, 0}};
        for (int[] d : due) {
            WellPumps x = with(1, NONE);
            for (int farm = 0; farm < 3; farm++) {
                x.farm(d[farm], 0, 0, 0);
            }
            for (int farm = 0; farm < 3; farm++) {
                Check.due("one bucket, " + java.util.Arrays.toString(d), x.owner(farm, 1), d[3 + farm]);
                Check.due("no bucket", x.owner(farm, 0), 0);
            }
        }
        WellPumps y = with(3, NONE);
        y.rain(0, 0, 0, 1);
        for (int farm = 0; farm < 3; farm++) {
            y.farm(10, 20, 30, 0);
        }
        int[] three = {0, 0, 3};
        for (int farm = 0; farm < 3; farm++) {
            Check.due("three buckets", y.owner(farm, 3), three[farm]);
        }
        WellPumps z = with(3, NONE);
        z.rain(0, 0, 0, 1);
        z.farm(10, 20, 20, 0);
        z.farm(10, 20, 20, 0);
        Check.due("one for the first", z.owner(0, 3), 1);
        Check.due("two for the second", z.owner(1, 3), 2);
        Check.due("none for the first", z.owner(0, 2), 0);
        Check.due("two for the second", z.owner(1, 2), 2);
    }

    /** The whole part, rounded down. */
    private static void lostRounded() {
        // the owner has 80 / 3, farm 0 alone 5 / 3 of what it has each year
        int[][] due = {{0, 0, 10}, {1, 1, 10}, {1, 2, 10}, {1, 3, 11}, {1, 4, 11}, {99, 4, 175}, {99, 3, 133},
            {40, 4, 76}, {24, 4, 50}, {60, 1, 35}, {61, 1, 35}, {62, 1, 35}, {63, 1, 36}, {64, 1, 36}};
        for (int[] d : due) {
            WellPumps x = with(2, NONE);
            x.years(2, 5);
            farm(x, 10, 15, 15, 0, "draw 1");
            x.farm(10, 15, 15, 0);
            x.rule(0, 0, 0, d[0], d[1]);
            x.force(1);
            due("the owner has", owned(x, 2), Frac.of(80, 3));
            Frac less = Frac.of(80, 3).less(Frac.of(40 - d[0] * d[1], 4).times(Frac.of(5, 3)));
            Check.due("lost by " + java.util.Arrays.toString(d), x.lost(2), d[2]);
            Check.due("that is rounded down", d[2], less.floor());
        }
    }

    // ---- near and rest: so many years ----

    /**
     * TOP 2, one bucket of rain; any bucket is so much, less 9 at level 1. By 4 / 5 it waits there from so many years
     * on: 9 times 4 / 5 and its powers, for the years behind this one, must be as much as the bucket now.
     */
    private static final int[][] WAITS = {{9, 1}, {12, 2}, {16, 2}, {17, 3}, {21, 3}, {22, 4}, {26, 4}, {27, 5},
        {30, 5}, {31, 6}, {33, 6}, {34, 7}, {35, 7}, {36, 8}, {37, 8}, {38, 9}, {99, 9}};

    private static WellPumps deep(int brings, int parts) {
        WellPumps x = with(2, NONE);
        x.rain(0, parts, 0, 0);
        x.years(4, 5);
        x.farm(brings, brings, brings, 9);
        return x;
    }

    private static void nearYears() {
        for (int[] w : WAITS) {
            for (int parts = 1; parts <= 4; parts++) {
                WellPumps x = deep(w[0], parts);
                for (int years = 1; years <= 8; years++) {
                    String at = " for " + w[0] + ", " + years + " years";
                    Check.due("near at 1" + at, x.near(0, 1, years), years < w[1] ? 1 : 0);
                    Check.due("near at 2" + at, x.near(0, 2, years), 1);
                    Check.due("near at 0" + at, x.near(0, 0, years), 0);
                }
            }
        }
    }

    private static void nearAsGood() {
        WellPumps x = with(2, NONE);
        x.years(4, 5);
        x.farm(9, 9, 9, 5);
        // now 4; in a year 5 more, times 4 / 5
        Check.due("as good to wait, which is less", x.near(0, 1, 2), 0);
        Check.due("as good to wait at rest", x.rest(0, 1, 2), 0);
        x.years(3, 4);
        Check.due("less good to wait", x.near(0, 1, 2), 1);
        Check.due("less good to wait at rest", x.rest(0, 1, 2), 1);
        WellPumps y = deep(20, 1);
        y.farm(20, 20, 20, 0);
        y.by(1, Check.draw(y, "draw 3"));
        Check.due("the other one takes what is left", y.near(0, 1, 8), 1);
        y.by(1, Check.draw(y, "draw 3 if broken"));
        Check.due("but not if it is not broken", y.near(0, 1, 8), 0);
    }

    private static void restYears() {
        for (int[] w : WAITS) {
            WellPumps x = deep(w[0], 1 + w[0] % 4);
            for (int years = 1; years <= 8; years++) {
                String at = " for " + w[0] + ", " + years + " years";
                boolean waits = years >= w[1];
                Check.due("rest at 1" + at, x.rest(0, 1, years), waits ? 0 : 1);
                Check.due("rest at 2" + at, x.rest(0, 2, years), 1);
                Frac full = sumOf(4, 5, years).times(Frac.of(w[0], 1));
                Frac later = sumOf(4, 5, years - 1).times(Frac.of(4 * w[0], 5));
                Frac deep = sumOf(4, 5, years).times(Frac.of(w[0] - 9, 1));
                due("worth at 2" + at, restWorth(x, 0, 2, years), full);
                due("worth at 1" + at, restWorth(x, 0, 1, years), waits ? later : deep);
                Check.due("nearest" + at, x.nearest(1, years), 0);
            }
        }
    }

    /** The least of the first FARM, then of the second, then of the third; 0 for all, where there are none. */
    private static void restLeast() {
        int[][] due = {{10, 10, 10, 1, 0, 0}, {0, 10, 10, 0, 1, 0}, {0, 0, 10, 0, 0, 1}, {0, 0, 0, 0, 0, 0},
            {10, 0, 10, 1, 0, 0}};
        for (int[] d : due) {
            WellPumps x = with(1, NONE);
            for (int farm = 0; farm < 3; farm++) {
                x.farm(d[farm], 0, 0, 0);
            }
            for (int farm = 0; farm < 3; farm++) {
                for (int years = 1; years <= 8; years++) {
                    Check.due("one bucket, " + java.util.Arrays.toString(d), x.rest(farm, 1, years), d[3 + farm]);
                    Check.due("no bucket", x.rest(farm, 0, years), 0);
                    Frac has = sumOf(1, 2, years).times(Frac.of(10 * d[3 + farm], 1));
                    due("its worth", restWorth(x, farm, 1, years), has);
                }
            }
        }
    }

    /** Of several the least number; PRICE and FINE left out. */
    private static void nearestLeast() {
        for (int rules = 1; rules <= 5; rules++) {
            for (int best = 1; best < rules; best++) {
                WellPumps x = with(1, NONE);
                x.farm(1, 1, 1, 0);
                x.farm(99, 99, 99, 0);
                for (int rule = 1; rule < rules; rule++) {
                    // by a price of 2 the first farm leaves its bucket to the second one
                    x.rule(rule < best ? 0 : 2, 0, 3, 0, 0);
                }
                for (int years = 1; years <= 8; years++) {
                    Check.due("rule " + best + " of " + rules, x.nearest(1, years), best);
                }
                Check.due("where all are as good the least", x.nearest(0, 1), 0);
            }
        }
        WellPumps y = with(3, NONE);
        y.rain(0, 0, 0, 1);
        y.farm(99, 99, 99, 0);
        y.rule(9, 0, 0, 10, 4);
        y.rule(0, 3, 3, 0, 0);
        Check.due("as if they were paid back", y.nearest(3, 8), 0);
        y.force(2);
        Check.due("whichever is in force", y.nearest(3, 8), 0);
    }

    /**
     * TOP 2, one bucket of rain, two farms to which a bucket is 25, less 9 at level 1. With a year left they take one
     * each, 50 in all; by LEAST 1 only the first does. But then the level stays: from so many years on that is more.
     */
    private static void nearestYears() {
        for (int brings = 23; brings <= 27; brings++) {
            WellPumps x = with(2, NONE);
            x.years(4, 5);
            x.farm(brings, brings, brings, 9);
            x.farm(brings, brings, brings, 9);
            x.rule(0, 1, 3, 0, 0);
            for (int years = 1; years <= 8; years++) {
                // one bucket more now, and 9 less in each of the years behind
                Frac less = sumOf(4, 5, years).less(Frac.ONE).times(Frac.of(9, 1));
                int due = less.compareTo(Frac.of(brings, 1)) > 0 ? 1 : 0;
                Check.due("nearest of " + brings + " in " + years, x.nearest(2, years), due);
            }
            Check.due("one year", x.nearest(2, 1), 0);
        }
    }

    // ---- pacts and weak ones ----

    private static void pactsOfEach() {
        WellPumps x = with(2, NONE);
        farm(x, 0, 0, 0, 1, "");
        Check.due("0 alone holds where buckets cost only", x.pacts(0), 1);
        WellPumps y = with(3, NONE);
        y.rain(0, 0, 0, 1);
        farm(y, 0, 0, 30, 0, "draw 3");
        Check.due("3 alone holds where three are needed", y.pacts(0), 8);
        WellPumps z = with(3, NONE);
        z.rain(0, 0, 0, 1);
        farm(z, 0, 30, 29, 0, "draw 2");
        Check.due("2 alone", z.pacts(0), 4);
        WellPumps w = with(3, NONE);
        w.rain(0, 0, 0, 1);
        farm(w, 30, 29, 28, 0, "draw 1");
        Check.due("1 alone", w.pacts(0), 2);
        WellPumps v = with(3, NONE);
        farm(v, 0, 0, 0, 0, "draw 1 if broken");
        Check.due("all four where nothing is worth anything", v.pacts(0), 15);
        WellPumps u = with(3, NONE);
        u.rain(0, 0, 0, 1);
        farm(u, 10, 20, 30, 0, "draw 0");
        Check.due("none where the draw does less than each would broken", u.pacts(0), 0);
    }

    /**
     * Of all P / Q, from 4 / 5 down to 1 / 5. The last farm has 10 each year; two buckets at once bring more, but then
     * the first farm takes all for ever: a gain if that is more than 10 Q / (Q - P).
     */
    private static void weakOfEach() {
        for (int between = 0; between <= 1; between++) {
            for (int two = 10; two <= 60; two++) {
                WellPumps x = with(3, NONE);
                x.rain(0, 0, 1, 0);
                farm(x, 10, 10, 10, 0, "draw 3 if broken; draw 1");
                if (between == 1) {
                    farm(x, 0, 0, 0, 0, "");
                }
                farm(x, 10, two, two, 0, "draw 1 if not broken");
                for (int at = WEIGHTS.length - 1; at >= 0; at--) {
                    int p = WEIGHTS[at][0];
                    int q = WEIGHTS[at][1];
                    x.years(p, q);
                    boolean gains = two * (q - p) > 10 * q;
                    Check.due("judge by " + p + " / " + q + " of " + two, x.judge(), gains ? 31 + between : NONE);
                }
                Check.due("weak of " + two, x.weak(), firstWeak(two, between));
                due("P / Q is 4 / 5 as before", worth(x, 0, 3, false), Frac.of(50, 1));
            }
        }
    }

    private static int firstWeak(int two, int between) {
        for (int[] pq : WEIGHTS) {
            if (two * (pq[1] - pq[0]) > 10 * pq[1]) {
                return 100 * pq[0] + 10 * pq[1] + 1 + between;
            }
        }
        return NONE;
    }

    // ---- rows of rain ----

    /** At the end of one of these years: from 0 years on, and level 0 at the begin is none. */
    private static void dryYears() {
        for (int parts = 1; parts <= 4; parts++) {
            WellPumps x = with(3, NONE);
            x.rain(parts, 0, 0, 0);
            farm(x, 1, 1, 1, 0, "draw 1");
            long all = 1;
            for (int years = 0; years <= 20; years++) {
                for (int level = 0; level <= 3; level++) {
                    Check.due("dry from " + level + " in " + years, x.dry(level, years),
                            years >= Math.max(1, level) ? all : 0);
                }
                all *= parts;
            }
        }
        WellPumps y = with(1, NONE);
        y.rain(0, 0, 0, 4);
        Check.due("level 0 at the begin alone", y.dry(0, 20), 0);
        WellPumps z = with(1, NONE);
        z.rain(3, 1, 0, 0);
        Check.due("all rows but one", z.dry(0, 10), (1L << 20) - (1L << 18));
        farm(z, 1, 1, 1, 0, "draw 1");
        Check.due("each year may be dry", z.dry(0, 10), (1L << 20) - 1);
        Check.due("a row that is dry twice counts once", z.dry(0, 1), 3);
    }

    private static void partAndMost() {
        for (int parts = 1; parts <= 4; parts++) {
            WellPumps x = with(3, NONE);
            x.rain(0, 0, 0, parts);
            farm(x, 1, 1, 1, 0, "draw 1");
            farm(x, 1, 1, 1, 0, "draw 2 if not broken");
            farm(x, 1, 1, 1, 0, "draw 3");
            long all = 1;
            for (int years = 0; years <= 12; years++) {
                Check.due("the first has one each year", x.part(0, 3, years), years * all);
                Check.due("the second has two", x.part(1, 3, years), 2 * years * all);
                Check.due("the third has nothing", x.part(2, 3, years), 0);
                Check.due("the second has most", x.most(3, years), years == 0 ? 0 : 1);
                Check.due("from 0 one year less", x.part(1, 0, years), years == 0 ? 0 : 2 * (years - 1) * all);
                all *= parts;
            }
        }
        String[] texts = {"draw 0", "draw 1"};
        for (int bits = 0; bits < 8; bits++) {
            WellPumps x = with(7, NONE);
            for (int farm = 0; farm < 3; farm++) {
                farm(x, 1, 1, 1, 0, texts[bits >> farm & 1]);
            }
            Check.due("of several the least", x.most(7, 1), bits == 0 ? 0 : Integer.numberOfTrailingZeros(bits));
        }
    }

    // ---- edge and lasts ----

    /** TOP 2, level 1: by 1 / 2 it waits there from a COST of half of what a bucket brings on. */
    private static void edges() {
        for (int brings = 0; brings <= 22; brings++) {
            int waits = (brings + 1) / 2;
            for (int cost = 0; cost <= 9; cost++) {
                WellPumps x = with(2, NONE);
                x.farm(brings, brings, brings, cost);
                String at = " of " + brings + " by " + cost;
                Check.due("answer" + at, x.answer(0, 1), cost < waits ? 1 : 0);
                int due = cost < waits ? waits : waits - 1;
                Check.due("edge" + at, x.edge(0, 1), due >= 0 && due <= 9 ? due : NONE);
                Check.due("at TOP it costs nothing" + at, x.edge(0, 2), NONE);
                Check.due("at 0 there is nothing" + at, x.edge(0, 0), NONE);
                Check.due("the cost stays" + at, x.answer(0, 1), cost < waits ? 1 : 0);
            }
        }
    }

    /** In how many years without any rain; 0 from LEVEL 0 on; none. */
    private static void lastsYears() {
        for (int number = 0; number <= 3; number++) {
            for (int leak = -1; leak <= 7; leak++) {
                for (int least = 0; least <= 2; least++) {
                    WellPumps x = with(7, leak);
                    x.rain(0, 0, 0, 1);
                    farm(x, 1, 1, 1, 0, "draw " + number + " if not broken");
                    x.rule(0, least, 3, 0, 0);
                    x.force(1);
                    int[] due = new int[8];
                    for (int level = 1; level <= 7; level++) {
                        int low = level - Math.min(number, Math.max(0, level - least));
                        low -= leak >= 0 && low > leak ? 1 : 0;
                        due[level] = low == level || due[low] == NONE ? NONE : due[low] + 1;
                    }
                    for (int level = 0; level <= 7; level++) {
                        Check.due("lasts from " + level, x.lasts(level), due[level]);
                    }
                }
            }
        }
    }

    // ---- runs ----

    /** The first and the last year of 100. */
    private static void runYears() {
        for (int dry = 0; dry <= 99; dry += dry == 0 || dry == 97 ? 1 : 32) {
            WellPumps x = with(1, NONE);
            farm(x, 99, 99, 99, 0, "draw 1");
            byte[] row = new byte[400];
            for (int year = 0; year < row.length; year++) {
                row[year] = (byte) (year == dry ? 0 : 1);
            }
            Check.feed(x, row);
            x.row();
            Check.due("dry in " + dry, x.run(1, 100, 0, true, 4), dry);
            Check.due("at its end", x.run(1, dry + 1, 0, true, 4), dry);
            Check.due("not before", x.run(1, dry, 0, true, 4), NONE);
            Check.due("level at the end", x.run(1, dry + 1, 0, true, 3), 0);
            Check.due("a bucket each year, but behind the dry one", x.run(1, 100, 0, true, 0),
                    4 * 99 * (dry == 99 ? 100 : 99));
        }
        WellPumps y = with(7, NONE);
        y.rain(0, 0, 0, 1);
        farm(y, 99, 99, 99, 0, "draw 3");
        y.rule(9, 0, 0, 99, 4);
        Check.due("100 years", y.run(7, 100, 0, false, 0), 4 * 99 * 100);
        y.force(1);
        Check.due("100 years below 0", y.run(7, 100, 0, false, 0), 4 * 100 * (99 - 27 - 297));
        Check.due("farm 1 of none", y.run(7, 100, 0, false, 1), 0);
        Check.due("farm 2 of none", y.run(7, 100, 0, false, 2), 0);
        y.rule(0, 0, 2, 1, 1);
        y.force(2);
        Check.due("one quarter each year", y.run(7, 1, 0, false, 0), 4 * 99 - 1);
        Check.due("one quarter each year", y.run(7, 3, 0, false, 0), 3 * (4 * 99 - 1));
    }

    /** BROKEN from the year on behind one in which some FARM wanted more than its DRAW tells without BROKEN. */
    private static void brokenYears() {
        for (int told = 0; told <= 3; told++) {
            for (int number = 0; number <= 3; number++) {
                for (int farm = 0; farm < 3; farm++) {
                    WellPumps x = with(7, NONE);
                    for (int each = 0; each < 3; each++) {
                        farm(x, 1, 2, 3, 0, "draw 3 if broken; draw " + told);
                    }
                    x.broken(5, farm, number);
                    String at = " of " + number + " for " + told;
                    Check.due("broken" + at, x.run(7, 20, 0, false, 5), number > told ? 6 : NONE);
                    Check.due("got or not" + at, x.run(0, 20, 0, true, 5), number > told ? 6 : NONE);
                    Check.due("that year is the first one" + at, x.run(7, 7, 0, false, 5), number > told ? 6 : NONE);
                    Check.due("not before it" + at, x.run(7, 6, 0, false, 5), NONE);
                }
            }
        }
    }

    /** For ever, and by nothing but wanting more. */
    private static void brokenForEver() {
        WellPumps x = with(7, NONE);
        x.rain(0, 0, 0, 1);
        farm(x, 10, 20, 30, 0, "draw 2 if broken; draw 1");
        x.broken(1, 0, 2);
        x.broken(3, 0, 0);
        x.broken(4, 0, 1);
        int[] had = {0, 1, 3, 5, 5, 6, 8, 10};
        for (int years = 0; years < had.length; years++) {
            Check.due("had by " + years, x.run(7, years, 0, false, 0), 40 * had[years]);
        }
        Check.due("to the end", x.run(7, 100, 0, false, 0), 40 * (6 + 2 * 95));
        Check.due("the first year", x.run(7, 100, 0, false, 5), 2);
        WellPumps y = with(7, NONE);
        y.rain(0, 0, 0, 1);
        farm(y, 10, 20, 30, 0, "draw 3 if broken; draw 1");
        farm(y, 10, 20, 30, 0, "draw 2 if broken");
        Check.due("by draws nothing breaks", y.run(7, 100, 0, false, 5), NONE);
        y.broken(99, 1, 1);
        Check.due("in the last year", y.run(7, 100, 0, false, 1), 40);
        Check.due("no year behind it", y.run(7, 100, 0, false, 5), NONE);
        y.broken(98, 1, 3);
        Check.due("the last year is broken", y.run(7, 100, 0, false, 5), 99);
        Check.due("then all want as broken, but who is told else", y.run(7, 100, 0, false, 0), 40 * (99 + 3));
        Check.due("then all want as broken, but who is told else", y.run(7, 100, 0, false, 1), 40 * (3 + 1));
    }

    /** LEVELS at which no FARM wants anything (not BROKEN). */
    private static void noWish() {
        for (int top = 1; top <= 7; top++) {
            for (int from = 0; from <= top + 1; from++) {
                WellPumps x = with(top, NONE);
                Check.due("without farms all", x.count(8), top + 1);
                x.farm(1, 1, 1, 1);
                Check.due("without draws all", x.count(8), top + 1);
                farm(x, 1, 1, 1, 0, "draw 1 if broken");
                Check.due("not broken all", x.count(8), top + 1);
                farm(x, 1, 1, 1, 0, "draw 1 if level + 1 > " + from);
                Check.due("those below " + from, x.count(8), from);
                x.rule(0, 7, 0, 0, 0);
                x.force(1);
                Check.due("to want is not to get", x.count(8), from);
            }
        }
    }
}
