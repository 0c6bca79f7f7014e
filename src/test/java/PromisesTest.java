import java.util.NoSuchElementException;

/** Each promise of the document by hand: ordinary inputs, edges, and wrong inputs. */
public final class PromisesTest {
    private static final int NONE = WellPumps.NONE;

    private PromisesTest() {
    }

    public static void main(String[] args) {
        newObject();
        feed();
        end();
        well();
        rain();
        years();
        farm();
        rule();
        force();
        draw();
        drawHolds();
        fault();
        faultDeep();
        by();
        wants();
        gains();
        next();
        worth();
        judge();
        answer();
        owner();
        owned();
        lost();
        near();
        rest();
        restWithoutOne();
        restWorth();
        nearest();
        pacts();
        weak();
        dry();
        broken();
        row();
        run();
        runBroken();
        runBySeed();
        part();
        most();
        edge();
        lasts();
        beside();
        image();
        imageKeepsAll();
        count();
        Check.end("PromisesTest");
    }

    // ---- wells to ask ----

    /** TOP 1, one bucket of rain each year, one farm to which any bucket is 10, and that wants 1. */
    private static WellPumps single() {
        WellPumps x = new WellPumps();
        x.well(1, NONE);
        x.farm(10, 10, 10, 0);
        Check.draw(x, "draw 1");
        x.by(0, 0);
        return x;
    }

    /** TOP 2, one bucket of rain each year, two farms alike, both want 1. */
    private static WellPumps two() {
        WellPumps x = new WellPumps();
        x.well(2, NONE);
        x.farm(10, 15, 15, 0);
        x.farm(10, 15, 15, 0);
        Check.draw(x, "draw 1");
        x.by(0, 0);
        x.by(1, 0);
        return x;
    }

    /**
     * TOP 3, two buckets of rain each year. Farm 0 has 10 of any bucket; farm 1 has 14 of two, and would take them,
     * but for draw 0, by which farm 0 takes all once it is broken; draw 1 answers nothing.
     */
    private static WellPumps answered() {
        return answered(14);
    }

    private static WellPumps answered(int two) {
        WellPumps x = new WellPumps();
        x.well(3, NONE);
        x.rain(0, 0, 1, 0);
        x.farm(10, 10, 10, 0);
        x.farm(10, two, two, 0);
        Check.draw(x, "draw 3 if broken and farm < 1; draw 1 if not broken");
        Check.draw(x, "draw 1");
        x.by(0, 0);
        x.by(1, 0);
        return x;
    }

    /** TOP 2, one bucket of rain, one farm to which any bucket is 10, less the cost if the level is 1. */
    private static WellPumps deep(int cost) {
        WellPumps x = new WellPumps();
        x.well(2, NONE);
        x.farm(10, 10, 10, cost);
        return x;
    }

    /** TOP 3; by 2 / 5 the answer at level 2 is 2 of a cost of 0 or 1, and 0 of a cost of 9: else 1. */
    private static WellPumps stepped(int cost) {
        WellPumps x = new WellPumps();
        x.well(3, NONE);
        x.years(2, 5);
        x.farm(14, 16, 20, cost);
        return x;
    }

    // ---- promises 1 to 3 ----

    private static void newObject() {
        WellPumps x = new WellPumps();
        int[] counts = {0, 0, 1, 0, 0, 0, 1, 4, 5};
        for (int what = 0; what < counts.length; what++) {
            Check.due("new: count(" + what + ")", x.count(what), counts[what]);
        }
        Check.due("new: fault()", x.fault(), NONE);
        Check.due("new: back()", x.back(), false);
        Check.due("new: judge()", x.judge(), NONE);
        Check.due("new: weak()", x.weak(), NONE);
        Check.due("new: most(4, 3)", x.most(4, 3), NONE);
        Check.due("new: owned(4) above", x.owned(4, false), 0);
        Check.due("new: owned(4) below", x.owned(4, true), 1);
        Check.due("new: lasts(4): there is no leak", x.lasts(4), NONE);
        Check.due("new: next(2, 3): rain is 1", x.next(2, false, 3), 1);
        Check.due("new: end(1): the tape is empty", x.end(1), false);
        Check.due("new: run(6): there is no lower well", x.run(4, 3, 1, false, 6), NONE);
        Check.due("new: farm", x.farm(10, 20, 30, 0), 0);
        Check.due("new: a farm has no draw", x.wants(0, 4, false, false), 0);
        Check.draw(x, "draw 3");
        x.by(0, 0);
        Check.due("new: rule 0 has no price, and a share of 3", x.gains(0, 4, false), 120);
        Check.due("new: P / Q is 1 / 2", x.worth(0, 1, false, false), 20);
    }

    private static void feed() {
        WellPumps x = new WellPumps();
        for (int times = 1; times <= 20; times++) {
            Check.due("feed " + times, x.feed(0, 0, 0, 0, 0), 20 * times);
        }
        Check.due("feed of a full tape", x.feed(0, 0, 0, 0, 0), NONE);
        Check.due("no more than 400 bytes", x.end(401), false);
        Check.due("just 400 bytes", x.end(400), true);
        x.end(381);
        Check.due("feed that would be 401", x.feed(0, 0, 0, 0, 0), NONE);
        Check.due("nothing came", x.end(382), false);
        x.end(380);
        Check.due("feed that is 400", x.feed(0, 0, 0, 0, 0), 400);

        WellPumps y = new WellPumps();
        y.feed(0x00010203, 0x03020100, 0x01010101, 0x02020202, 0x00030003);
        Check.due("row of 20", y.row(), 20);
        int[] levels = {0, 0, 1, 3, 6};
        y.well(7, NONE);
        for (int years = 1; years <= 4; years++) {
            Check.due("the highest byte is first, " + years, y.run(0, years, 0, true, 3), levels[years]);
        }
        Check.due("the next number follows", y.run(0, 5, 0, true, 3), 7);
        y.feed(-1, 0, 0, 0, 0);
        Check.argument("row of bytes 255", y::row);
    }

    private static void end() {
        WellPumps x = new WellPumps();
        Check.due("end(0) of nothing", x.end(0), true);
        Check.due("end(-1)", x.end(-1), false);
        x.feed(0x64726177, 0x20312020, 0, 0, 0);
        Check.due("end(21) of 20", x.end(21), false);
        Check.due("end(-1) of 20", x.end(-1), false);
        Check.due("end(min) of 20", x.end(Integer.MIN_VALUE), false);
        Check.due("end(20) of 20", x.end(20), true);
        Check.due("end(8)", x.end(8), true);
        Check.due("end(9) of 8", x.end(9), false);
        Check.due("draw of the first 8", x.draw(), 0);
        x.feed(0x64726177, 0, 0, 0, 0);
        x.end(4);
        Check.due("more comes behind what is left", x.feed(0x20312020, 0, 0, 0, 0), 24);
        x.end(8);
        Check.due("draw of both", x.draw(), 1);
    }

    // ---- promises 4 to 9 ----

    private static void well() {
        WellPumps x = new WellPumps();
        x.well(7, 7);
        Check.due("TOP 7", x.count(7), 7);
        x.well(1, NONE);
        Check.due("TOP 1", x.count(7), 1);
        x.well(3, 0);
        int[][] wrong = {{0, 0}, {8, 0}, {-1, 0}, {4, -2}, {4, 8}, {Integer.MAX_VALUE, 0}, {2, Integer.MIN_VALUE}};
        for (int[] w : wrong) {
            Check.argument("well " + w[0] + " " + w[1], () -> x.well(w[0], w[1]));
        }
        Check.due("TOP is still 3", x.count(7), 3);
        x.rain(1, 0, 0, 0);
        Check.due("LEAK is still 0", x.next(3, false, 2), 1);
        Check.due("LEAK takes nothing from where it is", x.next(0, false, 0), 1);
        x.well(3, 2);
        Check.due("LEAK 2 takes from 3", x.next(3, false, 2), 1);
        Check.due("LEAK 2 takes nothing from 2", x.next(2, false, 2), 1);
        x.well(7, 7);
        Check.due("LEAK at TOP takes nothing", x.next(7, false, 7), 1);
        x.well(7, NONE);
        Check.due("no LEAK", x.next(7, false, 7), 1);
        x.well(2, NONE);
        Check.index("LEVEL above the new TOP", () -> x.lasts(3));
    }

    private static void rain() {
        WellPumps x = new WellPumps();
        x.rain(1, 1, 1, 1);
        Check.due("N is 4", x.count(6), 4);
        for (int to = 0; to <= 3; to++) {
            Check.due("rain of all, to " + to, x.next(0, false, to), 1);
        }
        x.rain(0, 0, 0, 4);
        Check.due("rain 3 in 4 parts", x.next(0, false, 3), 4);
        x.rain(4, 0, 0, 0);
        x.rain(0, 4, 0, 0);
        x.rain(0, 0, 3, 0);
        int[][] wrong = {{-1, 1, 1, 1}, {1, -1, 1, 1}, {1, 1, -1, 1}, {1, 1, 1, -1}, {5, 0, 0, 0}, {0, 5, 0, 0},
            {0, 0, 5, 0}, {0, 0, 0, 5}, {0, 0, 0, 0}, {2, 1, 1, 1}, {5, -1, 0, 0},
            {Integer.MAX_VALUE, Integer.MAX_VALUE, 3, 0}};
        for (int[] w : wrong) {
            Check.argument("rain " + java.util.Arrays.toString(w), () -> x.rain(w[0], w[1], w[2], w[3]));
        }
        Check.due("N is still 3", x.count(6), 3);
        Check.due("rain is still 2", x.next(0, false, 2), 3);
    }

    private static void years() {
        WellPumps x = single();
        int[][] right = {{1, 2, 20}, {4, 5, 50}, {3, 4, 40}, {2, 4, 20}, {2, 3, 30}};
        for (int[] r : right) {
            x.years(r[0], r[1]);
            Check.due("worth by " + r[0] + " / " + r[1], x.worth(0, 1, false, false), r[2]);
        }
        int[][] wrong = {{0, 2}, {-1, 2}, {2, 2}, {3, 2}, {1, 6}, {5, 6}, {1, 1}, {1, 0}, {1, -2},
            {Integer.MIN_VALUE, Integer.MIN_VALUE}};
        for (int[] w : wrong) {
            Check.argument("years " + w[0] + " " + w[1], () -> x.years(w[0], w[1]));
        }
        Check.due("P / Q is still 2 / 3", x.worth(0, 1, false, false), 30);
    }

    private static void farm() {
        WellPumps x = new WellPumps();
        Check.due("farm 0", x.farm(0, 0, 0, 0), 0);
        int[][] wrong = {{-1, 1, 1, 1}, {100, 1, 1, 1}, {1, -1, 1, 1}, {1, 100, 1, 1}, {1, 1, -1, 1}, {1, 1, 100, 1},
            {1, 1, 1, -1}, {1, 1, 1, 10}};
        for (int[] w : wrong) {
            Check.argument("farm " + java.util.Arrays.toString(w), () -> x.farm(w[0], w[1], w[2], w[3]));
        }
        Check.due("none came", x.count(0), 1);
        Check.due("farm 1", x.farm(99, 99, 99, 9), 1);
        Check.due("farm 2", x.farm(1, 2, 3, 4), 2);
        Check.unsupported("a fourth farm", () -> x.farm(1, 2, 3, 4));
        Check.argument("a fourth farm with a wrong number", () -> x.farm(1, 2, 3, 10));
        Check.due("three farms", x.count(0), 3);
    }

    private static void rule() {
        WellPumps x = single();
        Check.due("rule 1", x.rule(9, 7, 3, 99, 4), 1);
        Check.due("it is not in force", x.count(3), 0);
        Check.due("nothing else is worth", x.gains(0, 1, false), 40);
        int[][] wrong = {{-1, 0, 0, 0, 0}, {10, 0, 0, 0, 0}, {0, -1, 0, 0, 0}, {0, 8, 0, 0, 0}, {0, 0, -1, 0, 0},
            {0, 0, 4, 0, 0}, {0, 0, 0, -1, 0}, {0, 0, 0, 100, 0}, {0, 0, 0, 0, -1}, {0, 0, 0, 0, 5}};
        for (int[] w : wrong) {
            Check.argument("rule " + java.util.Arrays.toString(w), () -> x.rule(w[0], w[1], w[2], w[3], w[4]));
        }
        Check.due("none came", x.count(2), 2);
        Check.due("rule 2", x.rule(0, 0, 0, 0, 0), 2);
        Check.due("rule 3", x.rule(0, 0, 0, 0, 0), 3);
        Check.due("rule 4", x.rule(0, 0, 0, 0, 0), 4);
        Check.unsupported("a sixth rule", () -> x.rule(0, 0, 0, 0, 0));
        Check.argument("a sixth rule with a wrong number", () -> x.rule(0, 0, 0, 0, 5));
        Check.due("five rules", x.count(2), 5);
    }

    private static void force() {
        WellPumps x = single();
        Check.due("force(0) at first", x.force(0), false);
        Check.index("force(1) without one", () -> x.force(1));
        x.rule(3, 0, 3, 0, 0);
        Check.due("force(1)", x.force(1), true);
        Check.due("force(1) again", x.force(1), false);
        Check.due("the price counts", x.gains(0, 1, false), 28);
        Check.index("force(-1)", () -> x.force(-1));
        Check.index("force(2)", () -> x.force(2));
        Check.due("1 is still in force", x.count(3), 1);
        Check.due("force(0)", x.force(0), true);
        Check.due("the price counts no more", x.gains(0, 1, false), 40);
    }

    // ---- promises 10 to 12 ----

    private static void draw() {
        WellPumps x = new WellPumps();
        Check.due("an empty text", x.draw(), 0);
        Check.due("blanks alone", Check.draw(x, "     "), 1);
        Check.feed(x, "draw 4");
        Check.argument("a wrong text", x::draw);
        Check.due("the tape is used up", x.end(1), false);
        Check.due("no draw came", x.count(1), 2);
        Check.due("draw 2", Check.draw(x, "draw 1"), 2);
        Check.due("the tape is used up", x.end(1), false);
        Check.due("draw 3", Check.draw(x, "draw 1"), 3);
        Check.due("draw 4", Check.draw(x, "draw 1"), 4);
        Check.due("draw 5", Check.draw(x, "draw 1"), 5);
        Check.feed(x, "draw 1");
        Check.unsupported("a seventh draw", x::draw);
        Check.due("the tape is used up", x.end(1), false);
        Check.due("the text was right", x.fault(), NONE);
        Check.feed(x, "draw x");
        Check.argument("a seventh draw that is wrong", x::draw);
        Check.due("the tape is used up", x.end(1), false);
        Check.due("the text was wrong", x.fault(), 5);
        Check.due("six draws", x.count(1), 6);
    }

    /** What a farm wants, by its text, at level and TOP, broken or not. */
    private static int told(String text, int top, int farm, int level, boolean broken) {
        WellPumps x = new WellPumps();
        x.well(top, NONE);
        for (int index = 0; index <= farm; index++) {
            x.farm(1, 1, 1, 1);
        }
        Check.draw(x, text);
        x.by(farm, 0);
        return x.wants(farm, level, broken, false);
    }

    private static void drawHolds() {
        Check.due("no line", told("", 4, 0, 4, false), 0);
        Check.due("no line holds", told("draw 3 if level < 2", 4, 0, 2, false), 0);
        Check.due("the first that holds", told("draw 3 if level < 2; draw 2 if level > 1; draw 1", 4, 0, 2, false), 2);
        Check.due("the last one", told("draw 3 if level < 2; draw 2 if level > 3; draw 1", 4, 0, 2, false), 1);
        Check.due("03", told("draw 03", 4, 0, 4, false), 3);
        Check.due("close", told("draw2if level<5and broken", 4, 0, 4, true), 2);
        Check.due("wide", told("   draw   2   if   level   >   3   ;   draw   1   ", 4, 0, 4, false), 2);
        Check.due("broken", told("draw 2 if broken; draw 1", 4, 0, 4, true), 2);
        Check.due("not broken", told("draw 2 if broken; draw 1", 4, 0, 4, false), 1);
        Check.due("top", told("draw 2 if level + 1 > top", 7, 0, 7, false), 2);
        Check.due("less than top", told("draw 2 if level + 1 > top", 7, 0, 6, false), 0);
        Check.due("farm 2", told("draw 1 if farm < 2; draw 3", 4, 2, 4, false), 3);
        Check.due("farm 1", told("draw 1 if farm < 2; draw 3", 4, 1, 4, false), 1);
        Check.due("sums", told("draw 1 if 2 + level + 3 > top + top + 99", 1, 0, 1, false), 0);
        Check.due("sums", told("draw 1 if 2 + level + 97 > top + farm + 97", 1, 0, 0, false), 1);
        Check.due("two digits", told("draw 1 if level + 8 > 11", 4, 0, 4, false), 1);
        Check.due("two digits", told("draw 1 if level + 8 > 11", 4, 0, 3, false), 0);
        Check.due("two digits", told("draw 1 if 9 + 9 + 9 + level > 30 and 99 > 98", 4, 0, 4, false), 1);
        Check.due("equal is not less", told("draw 1 if level < 2", 4, 0, 2, false), 0);
        Check.due("equal is not more", told("draw 1 if level > 2", 4, 0, 2, false), 0);
        Check.due("and goes ahead of or", told("draw 1 if 0 < 1 or 0 < 1 and 1 < 0", 4, 0, 2, false), 1);
        Check.due("and goes ahead of or", told("draw 1 if 1 < 0 and 1 < 0 or 0 < 1", 4, 0, 2, false), 1);
        Check.due("brackets", told("draw 1 if (0 < 1 or 0 < 1) and 1 < 0", 4, 0, 2, false), 0);
        Check.due("not takes one atom", told("draw 1 if not 1 < 0 or 0 < 1", 4, 0, 2, false), 1);
        Check.due("not takes one atom", told("draw 1 if not 0 < 1 and 1 < 0", 4, 0, 2, false), 0);
        Check.due("not of brackets", told("draw 1 if not (0 < 1 and 1 < 0)", 4, 0, 2, false), 1);
        Check.due("six deep", told("draw 1 if not (not (not (0 < 1)))", 4, 0, 2, false), 0);
        Check.due("ten lines", told("draw 1 if 1 < 0;".repeat(9) + "draw 2", 4, 0, 2, false), 2);
        WellPumps x = new WellPumps();
        x.farm(1, 1, 1, 1);
        Check.draw(x, "draw 2 if level > top + 0 or top < 2; draw 1");
        x.by(0, 0);
        Check.due("by the TOP of now", x.wants(0, 1, false, false), 1);
        x.well(1, NONE);
        Check.due("by a TOP told later", x.wants(0, 1, false, false), 2);
    }

    private static void fault() {
        WellPumps x = new WellPumps();
        Check.due("fault ahead of any text", x.fault(), NONE);
        Object[][] due = {
            {"draw", 4}, {"draw ", 5}, {"  draw  ", 8}, {"drawn 1", 0}, {"Draw 1", 0}, {"1", 0}, {";", 0}, {" ;", 1},
            {"draw 4", 5}, {"draw 10", 5}, {"draw 003", 5}, {"draw x", 5}, {"draw 1 ;", 8}, {"draw 1;;", 7},
            {"draw 1 1", 7}, {"draw 1 if", 9}, {"draw 1 if ", 10}, {"draw 1 iff level < 1", 7}, {"draw 1 draw 2", 7},
            {"draw 1 if level", 15}, {"draw 1 if level <", 17}, {"draw 1 if level = 2", 16},
            {"draw 1 if level < 100", 18}, {"draw 1 if level < 099", 18}, {"draw 1 if level < 2 <", 20},
            {"draw 1 if level < 2 + ", 22}, {"draw 1 if broken + 1", 17}, {"draw 1 if broken < 1", 17},
            {"draw 1 if broken broken", 17}, {"draw 1 if level and", 16}, {"draw 1 if or", 10},
            {"draw 1 if broken or", 19}, {"draw 1 if (broken", 17}, {"draw 1 if (broken;", 17}, {"draw 1 if ()", 11},
            {"draw 1 if broken)", 16}, {"draw 1 if (level) < 2", 16}, {"draw 1 if (level + 1 < 2)", NONE},
            {"draw 1 if not", 13}, {"draw 1 if not not broken", NONE}, {"draw 1 if levels < 1", 10},
            {"draw 1 if notbroken", 10}, {"draw 1\t", 6}, {"draw 1\u00e4", 6}, {"\u00a0draw 1", 0}, {"draw 1 if 1 > 2 > 3", 16},
            {"draw 1 if 99 > 0", NONE}, {"draw 1 if level top < 3", 16}, {"draw 1 if -1 < 2", 10},
            {"draw 0", NONE}, {"draw 3", NONE}, {"draw 4x", 5},
        };
        for (Object[] d : due) {
            WellPumps y = new WellPumps();
            Check.due("fault of '" + d[0] + "'", Check.fault(y, (String) d[0]), (Integer) d[1]);
        }
        Check.fault(x, "draw 1 x");
        Check.due("fault stays", x.fault(), 7);
        x.row();
        x.image();
        Check.due("fault stays", x.fault(), 7);
        Check.due("fault of a right text", Check.fault(x, "draw 1"), NONE);
    }

    private static void faultDeep() {
        String six = "draw 1 if not (not (not (";
        WellPumps x = new WellPumps();
        Check.due("six deep", Check.fault(x, six + "level < 1)))"), NONE);
        Check.due("a 7th not", Check.fault(x, six + "not level < 1)))"), six.length());
        Check.due("a 7th (", Check.fault(x, six + " (level < 1))))"), six.length() + 1);
        Check.due("a 7th not of nots", Check.fault(x, "draw 1 if not not not not not not not broken"), 34);
        Check.due("six, then six", Check.fault(x, "draw 1 if ((((((broken)))))) and not not not not not not broken"),
                NONE);
        Check.due("a 7th ( of (", Check.fault(x, "draw 1 if ((((((("), 16);
        String ten = "draw 1;".repeat(10);
        Check.due("ten lines", Check.fault(x, ten.substring(0, 69)), NONE);
        Check.due("an 11th line", Check.fault(x, ten + " draw 1"), 71);
        Check.due("an 11th line that is wrong anyway", Check.fault(x, ten + "x"), 70);
        Check.due("no 11th line behind the ;", Check.fault(x, ten), 70);
        String full = "draw 1 if level <" + " ".repeat(382) + "1";
        Check.due("400 bytes", Check.fault(x, full), NONE);
        Check.due("400 things", Check.fault(x, "+".repeat(400)), 0);
        Check.due("200 things, all right", Check.fault(x, "draw 1 if 1<1" + "+1".repeat(193)), NONE);
        Check.due("400 bytes that want more", Check.fault(x, full.substring(0, 399) + " "), 400);
    }

    private static void by() {
        WellPumps x = new WellPumps();
        Check.index("no farm", () -> x.by(0, NONE));
        x.farm(1, 1, 1, 1);
        Check.due("none again", x.by(0, NONE), false);
        Check.index("no draw", () -> x.by(0, 0));
        Check.draw(x, "draw 1");
        Check.draw(x, "draw 2");
        Check.due("by(0, 1)", x.by(0, 1), true);
        Check.due("by(0, 1) again", x.by(0, 1), false);
        Check.due("by draw 1", x.wants(0, 4, false, false), 2);
        Check.index("draw 2", () -> x.by(0, 2));
        Check.index("draw -2", () -> x.by(0, -2));
        Check.index("farm 1", () -> x.by(1, 0));
        Check.index("farm -1", () -> x.by(-1, 0));
        Check.due("still by draw 1", x.wants(0, 4, false, false), 2);
        Check.due("by(0, 0)", x.by(0, 0), true);
        Check.due("by none", x.by(0, NONE), true);
        Check.due("by none wants 0", x.wants(0, 4, false, false), 0);
    }

    // ---- promises 13 to 16 ----

    private static void wants() {
        WellPumps x = new WellPumps();
        x.farm(1, 1, 1, 1);
        x.farm(1, 1, 1, 1);
        x.farm(1, 1, 1, 1);
        Check.draw(x, "draw 3 if broken; draw 2");
        for (int farm = 0; farm < 3; farm++) {
            x.by(farm, 0);
            Check.due("wants " + farm, x.wants(farm, 4, false, false), 2);
            Check.due("wants " + farm + " broken", x.wants(farm, 4, true, false), 3);
        }
        int[] got = {2, 2, 0};
        int[] gotBroken = {3, 1, 0};
        int[] gotAtThree = {2, 1, 0};
        for (int farm = 0; farm < 3; farm++) {
            Check.due("gets " + farm, x.wants(farm, 4, false, true), got[farm]);
            Check.due("gets broken " + farm, x.wants(farm, 4, true, true), gotBroken[farm]);
            Check.due("gets at 3 " + farm, x.wants(farm, 3, false, true), gotAtThree[farm]);
            Check.due("gets at 0 " + farm, x.wants(farm, 0, false, true), 0);
        }
        x.rule(0, 1, 3, 0, 0);
        x.rule(0, 7, 3, 0, 0);
        x.force(1);
        Check.due("LEAST 1 leaves farm 1 one", x.wants(1, 4, false, true), 1);
        Check.due("it wants as before", x.wants(1, 4, false, false), 2);
        x.force(2);
        Check.due("LEAST 7 leaves none", x.wants(0, 4, false, true), 0);
        wrongFarmAndLevel("wants", x, (farm, level) -> x.wants(farm, level, false, false));
    }

    private interface FarmAndLevel {
        void ask(int farm, int level);
    }

    /** Three farms, TOP 4. */
    private static void wrongFarmAndLevel(String call, WellPumps x, FarmAndLevel asked) {
        int[][] wrong = {{-1, 0}, {3, 0}, {0, -1}, {0, 5}, {3, 5}, {Integer.MIN_VALUE, 0}, {0, Integer.MAX_VALUE}};
        for (int[] w : wrong) {
            Check.index(call + " of farm " + w[0] + " at " + w[1], () -> asked.ask(w[0], w[1]));
        }
        asked.ask(2, 4);
        asked.ask(0, 0);
    }

    private static void wrongLevel(String call, Level asked) {
        Check.index(call + " at -1", () -> asked.ask(-1));
        Check.index(call + " at 5", () -> asked.ask(5));
        asked.ask(0);
        asked.ask(4);
    }

    private interface Level {
        void ask(int level);
    }

    /** Three farms, TOP 4. */
    private static WellPumps three() {
        WellPumps x = new WellPumps();
        x.farm(10, 20, 30, 1);
        x.farm(10, 20, 30, 1);
        x.farm(10, 20, 30, 1);
        return x;
    }

    private static void gains() {
        WellPumps x = new WellPumps();
        x.farm(10, 25, 45, 2);
        x.farm(7, 8, 9, 9);
        Check.draw(x, "draw 3");
        x.by(0, 0);
        x.by(1, 0);
        Check.due("at TOP nothing is deep", x.gains(0, 4, false), 4 * 45);
        Check.due("at 3 each bucket costs 2", x.gains(0, 3, false), 4 * (45 - 6));
        Check.due("at 2 two buckets cost 4 each", x.gains(0, 2, false), 4 * (25 - 8));
        Check.due("at 1 one costs 6", x.gains(0, 1, false), 4 * (10 - 6));
        Check.due("at 0 there is none", x.gains(0, 0, false), 0);
        Check.due("the second has what is left", x.gains(1, 4, false), 4 * 7);
        Check.due("and may have nothing", x.gains(1, 3, false), 0);
        x.rule(4, 0, 1, 15, 3);
        x.force(1);
        Check.due("price and fine", x.gains(0, 4, false), 4 * (45 - 12) - 2 * 15 * 3);
        Check.due("no fine for the share", x.gains(1, 4, false), 4 * (7 - 4));
        x.rule(0, 0, 0, 99, 1);
        x.force(2);
        Check.due("a quarter of 99 each", x.gains(0, 4, false), 4 * 45 - 3 * 99);
        x.rule(9, 0, 0, 99, 4);
        x.force(3);
        Check.due("below 0", x.gains(0, 1, false), 4 * (10 - 6 - 9 - 99));
        Check.draw(x, "draw 1 if broken; draw 2");
        x.force(0);
        x.by(0, 1);
        Check.due("not broken", x.gains(0, 4, false), 4 * 25);
        Check.due("broken", x.gains(0, 4, true), 4 * 10);
        WellPumps y = three();
        wrongFarmAndLevel("gains", y, (farm, level) -> y.gains(farm, level, true));
    }

    private static void next() {
        WellPumps x = three();
        x.rain(1, 0, 2, 1);
        Check.draw(x, "draw 1 if not broken");
        x.by(0, 0);
        x.by(2, 0);
        int[] due = {0, 0, 1, 0, 3};
        for (int to = 0; to < due.length; to++) {
            Check.due("next of 4 to " + to, x.next(4, false, to), due[to]);
        }
        Check.due("broken all stays", x.next(4, true, 4), 4);
        x.well(4, 1);
        Check.due("LEAK behind the draws", x.next(4, false, 1), 1);
        Check.due("LEAK looks at what is left", x.next(3, false, 1), 1);
        Check.due("LEAK looks at what is left", x.next(3, false, 3), 2);
        x.well(4, 0);
        Check.due("LEAK behind the draws, to 0", x.next(3, false, 0), 1);
        Check.index("from -1", () -> x.next(-1, false, 0));
        Check.index("from 5", () -> x.next(5, false, 0));
        Check.index("to -1", () -> x.next(0, false, -1));
        Check.index("to 5", () -> x.next(0, false, 5));
    }

    private static void worth() {
        WellPumps x = single();
        Check.due("from 1", x.worth(0, 1, false, false), 20);
        Check.due("from 1 below", x.worth(0, 1, false, true), 1);
        Check.due("from 0", x.worth(0, 0, false, false), 10);
        x.years(1, 3);
        Check.due("thirds", x.worth(0, 0, false, false), 5);
        x.rain(1, 1, 0, 0);
        x.years(1, 2);
        // w1 = 10 + (w0 + w1) / 4, w0 = (w0 + w1) / 4: w0 = w1 / 3, so w1 = 15
        Check.due("by chances", x.worth(0, 1, false, false), 15);
        Check.due("by chances", x.worth(0, 0, false, false), 5);
        x.years(2, 5);
        // w1 = 10 + (w0 + w1) / 5, w0 = (w0 + w1) / 5: w0 = w1 / 4, so w1 = 40 / 3
        Check.due("above", x.worth(0, 1, false, false), 40);
        Check.due("below", x.worth(0, 1, false, true), 3);
        Check.draw(x, "draw 1 if not broken");
        x.by(0, 1);
        Check.due("broken it has nothing", x.worth(0, 1, true, false), 0);
        Check.due("nothing is 0 / 1", x.worth(0, 1, true, true), 1);
        Check.due("not broken it is never broken", x.worth(0, 1, false, false), 40);
        x.rule(0, 0, 0, 99, 4);
        x.force(1);
        Check.due("below 0, by the rule in force", x.worth(0, 1, false, false), -356);
        Check.due("the lower number is above 0", x.worth(0, 1, false, true), 3);
        x.rule(0, 0, 0, 1, 1);
        x.force(2);
        // 39 / 4 times 4 / 3
        Check.due("quarters", x.worth(0, 1, false, false), 13);
        Check.due("quarters", x.worth(0, 1, false, true), 1);
        WellPumps y = three();
        wrongFarmAndLevel("worth", y, (farm, level) -> y.worth(farm, level, true, true));
    }

    // ---- promises 17 to 22 ----

    private static void judge() {
        WellPumps x = two();
        Check.due("farm 0 would take two at 2", x.judge(), 20);
        x.by(0, NONE);
        Check.due("farm 0 would take one at 1", x.judge(), 10);
        WellPumps y = answered();
        Check.due("nobody breaks what is answered", y.judge(), NONE);
        y.years(1, 4);
        Check.due("but if later years count less", y.judge(), 31);
        y.years(1, 2);
        y.by(0, 1);
        Check.due("farm 1 would not keep to nothing if farm 0 left some", y.judge(), 121);
        y.by(1, 1);
        Check.due("it breaks if nothing is answered", y.judge(), 31);
        WellPumps z = single();
        Check.due("it takes what there is", z.judge(), NONE);
        Check.draw(z, "draw 1 if not broken");
        z.by(0, 1);
        Check.due("broken it would do else", z.judge(), 110);
        Check.draw(z, "draw 3");
        z.by(0, 2);
        Check.due("as good is no gain", z.judge(), NONE);
    }

    private static void answer() {
        WellPumps x = two();
        int[][] due = {{0, 1, 2}, {0, 0, 1}};
        for (int farm = 0; farm < 2; farm++) {
            for (int level = 0; level <= 2; level++) {
                Check.due("answer of " + farm + " at " + level, x.answer(farm, level), due[farm][level]);
            }
        }
        WellPumps y = answered();
        Check.due("as if it never were broken", y.answer(1, 3), 2);
        WellPumps z = deep(5);
        Check.due("as good to wait, which is less", z.answer(0, 1), 0);
        z.years(2, 5);
        Check.due("less good to wait", z.answer(0, 1), 1);
        z.rule(1, 0, 3, 0, 0);
        z.years(1, 2);
        z.force(1);
        Check.due("9 at TOP, 4 now: it waits", z.answer(0, 1), 0);
        z.rule(0, 2, 3, 0, 0);
        z.force(2);
        Check.due("LEAST leaves nothing", z.answer(0, 2), 0);
        WellPumps w = three();
        wrongFarmAndLevel("answer", w, w::answer);
    }

    private static void owner() {
        WellPumps x = two();
        int[][] due = {{0, 0, 1}, {0, 1, 1}};
        for (int turn = 0; turn < 2; turn++) {
            for (int farm = 0; farm < 2; farm++) {
                for (int level = 0; level <= 2; level++) {
                    Check.due("owner for " + farm + " at " + level, x.owner(farm, level), due[farm][level]);
                }
            }
            x.rule(9, 2, 0, 99, 4);
            x.force(1);
        }
        WellPumps y = three();
        // at TOP any three or four buckets in all may be had for 10 each; four leave less than three for later
        Check.due("the last farm is used first", y.owner(2, 4), 3);
        wrongFarmAndLevel("owner", y, y::owner);
    }

    private static void owned() {
        WellPumps x = two();
        int[] due = {10, 20, 30};
        for (int level = 0; level <= 2; level++) {
            Check.due("owned at " + level, x.owned(level, false), due[level]);
            Check.due("owned below at " + level, x.owned(level, true), 1);
        }
        x.rule(9, 2, 0, 99, 4);
        x.force(1);
        Check.due("by rule 0", x.owned(2, false), 30);
        x.years(2, 5);
        // at 1: 10 / (1 - 2 / 5) = 50 / 3; at 2: 20 + 2 / 5 of that
        Check.due("above", x.owned(2, false), 80);
        Check.due("below", x.owned(2, true), 3);
        Check.due("above", x.owned(0, false), 20);
        wrongLevel("owned", level -> new WellPumps().owned(level, false));
    }

    private static void lost() {
        WellPumps x = two();
        for (int level = 0; level <= 2; level++) {
            Check.due("nothing is lost at " + level, x.lost(level), 0);
        }
        x.by(1, NONE);
        // farm 0 alone keeps the level: it has 10 each year, for ever
        Check.due("ten of 30", x.lost(2), 10);
        Check.draw(x, "draw 1 if not broken");
        x.by(0, 1);
        Check.due("not broken", x.lost(2), 10);
        x.by(0, NONE);
        Check.due("all", x.lost(2), 30);
        x.years(2, 5);
        Check.due("80 / 3 rounded down", x.lost(2), 26);
        x.years(1, 2);
        x.by(0, 0);
        x.by(1, 0);
        x.rule(9, 0, 3, 0, 0);
        x.force(1);
        Check.due("the price is lost too", x.lost(2), 27);
        x.rule(0, 0, 0, 1, 1);
        x.force(2);
        // of 30 each bucket is a quarter less: 3 / 4 in all
        Check.due("three quarters are no whole", x.lost(2), 0);
        x.rule(0, 0, 0, 99, 4);
        x.force(3);
        Check.due("worth below 0", x.lost(2), 99 * 3);
        wrongLevel("lost", level -> new WellPumps().lost(level));
    }

    private static void near() {
        WellPumps x = deep(9);
        Check.due("a last year: 1 is better than nothing", x.near(0, 1, 1), 1);
        Check.due("another follows: it waits", x.near(0, 1, 2), 0);
        Check.due("eight", x.near(0, 1, 8), 0);
        Check.due("at TOP", x.near(0, 2, 3), 1);
        Check.due("at 0 the least", x.near(0, 0, 1), 0);
        WellPumps y = two();
        Check.due("two buckets for 15", y.near(0, 2, 1), 2);
        Check.due("farm 1 has what is left", y.near(1, 2, 1), 1);
        y.by(0, NONE);
        Check.due("farm 1 has all", y.near(1, 2, 1), 2);
        WellPumps z = three();
        wrongFarmAndLevel("near", z, (farm, level) -> z.near(farm, level, 1));
        wrongYears("near", 1, 8, years -> z.near(0, 0, years));
        Check.index("no farm, no years", () -> z.near(3, 0, 0));
        Check.index("no level, no years", () -> z.near(0, 5, 9));
    }

    private static void wrongYears(String call, int least, int most, Level asked) {
        int[] wrong = {least - 1, most + 1, Integer.MIN_VALUE, Integer.MAX_VALUE};
        for (int years : wrong) {
            Check.argument(call + " of " + years + " years", () -> asked.ask(years));
        }
        asked.ask(least);
        asked.ask(most);
    }

    // ---- promises 23 to 27 ----

    private static void rest() {
        WellPumps x = two();
        int[][] due = {{0, 1, 2}, {0, 0, 0}};
        for (int farm = 0; farm < 2; farm++) {
            for (int level = 0; level <= 2; level++) {
                Check.due("rest of " + farm + " at " + level, x.rest(farm, level, 1), due[farm][level]);
            }
        }
        x.by(0, NONE);
        Check.due("it does not go by draws", x.rest(0, 2, 1), 2);
        x.rule(0, 0, 1, 99, 4);
        x.force(1);
        Check.due("by the rule in force", x.rest(0, 2, 1), 1);
        Check.due("by the rule in force", x.rest(1, 2, 1), 1);
        WellPumps y = deep(9);
        Check.due("with one year left", y.rest(0, 1, 1), 1);
        Check.due("with two it waits", y.rest(0, 1, 2), 0);
        WellPumps z = three();
        wrongFarmAndLevel("rest", z, (farm, level) -> z.rest(farm, level, 1));
        wrongYears("rest", 1, 8, years -> z.rest(0, 0, years));
        Check.index("no farm, no years", () -> z.rest(3, 0, 0));
    }

    /**
     * At level 2 with two years left, in tenths, by the numbers 0 and 1 of farm 0 and 0, 1, 2 of farm 1: 88 and 0,
     * 24 and -30, 0 and 130; 84 and 0, then 60 and -30; with 2 farm 0 has -130. So one of them always gains.
     */
    private static void restWithoutOne() {
        WellPumps x = new WellPumps();
        x.well(3, NONE);
        x.rain(1, 1, 0, 0);
        x.years(4, 5);
        x.farm(13, 1, 16, 7);
        x.farm(0, 19, 20, 3);
        Check.due("0 for all, where there is none", x.rest(0, 2, 2), 0);
        Check.due("0 for all, where there is none", x.rest(1, 2, 2), 0);
        Check.due("its worth", x.restWorth(0, 2, 2, false), 44);
        Check.due("its worth", x.restWorth(0, 2, 2, true), 5);
        Check.due("its worth", x.restWorth(1, 2, 2, false), 0);
        Check.due("with one year left there is one", x.rest(0, 2, 1), 1);
    }

    private static void restWorth() {
        WellPumps x = two();
        int[][] due = {{15, 1}, {20, 1}, {45, 2}};
        for (int years = 1; years <= 3; years++) {
            Check.due("worth of " + years, x.restWorth(0, 2, years, false), due[years - 1][0]);
            Check.due("worth below of " + years, x.restWorth(0, 2, years, true), due[years - 1][1]);
        }
        Check.due("farm 1 has nothing", x.restWorth(1, 2, 3, false), 0);
        Check.due("nothing is 0 / 1", x.restWorth(1, 2, 3, true), 1);
        x.rule(0, 0, 0, 1, 1);
        x.force(1);
        Check.due("quarters", x.restWorth(0, 2, 1, false), 29);
        Check.due("quarters", x.restWorth(0, 2, 1, true), 2);
        WellPumps z = three();
        wrongFarmAndLevel("restWorth", z, (farm, level) -> z.restWorth(farm, level, 1, true));
        wrongYears("restWorth", 1, 8, years -> z.restWorth(0, 0, years, true));
        Check.index("no farm, no years", () -> z.restWorth(0, 5, 0, true));
    }

    private static void nearest() {
        WellPumps x = two();
        Check.due("one rule", x.nearest(2, 1), 0);
        x.rule(0, 2, 3, 0, 0);
        Check.due("a rule that forbids all is not nearest", x.nearest(2, 1), 0);
        x.rule(0, 0, 1, 99, 4);
        Check.due("10 and 10 are more than 15", x.nearest(2, 1), 2);
        Check.due("at 1 all is as good", x.nearest(1, 1), 0);
        x.rule(9, 0, 3, 0, 0);
        Check.due("the price leads there too, by a later number", x.nearest(2, 1), 2);
        x.force(1);
        Check.due("whichever is in force", x.nearest(2, 1), 2);
        WellPumps y = two();
        y.rule(9, 0, 3, 0, 0);
        Check.due("the price is left out", y.nearest(2, 1), 1);
        WellPumps none = new WellPumps();
        none.rule(1, 1, 1, 1, 1);
        Check.due("without farms the least", none.nearest(4, 8), 0);
        wrongLevel("nearest", level -> none.nearest(level, 1));
        wrongYears("nearest", 1, 8, years -> none.nearest(0, years));
        Check.index("no level, no years", () -> none.nearest(5, 0));
    }

    private static void pacts() {
        WellPumps x = answered();
        Check.due("pacts that are answered", x.pacts(0), 14);
        Check.due("pacts that are not", x.pacts(1), 0);
        x.years(1, 4);
        Check.due("1 does not hold if later years count less", x.pacts(0), 12);
        Check.index("draw 2", () -> x.pacts(2));
        Check.index("draw -1", () -> x.pacts(NONE));
        WellPumps y = single();
        Check.due("one farm", y.pacts(0), 14);
        y.by(0, NONE);
        Check.due("by which draws they go now is one", y.pacts(0), 14);
        WellPumps none = new WellPumps();
        Check.index("no draw", () -> none.pacts(0));
        Check.draw(none, "");
        Check.due("without farms all hold", none.pacts(0), 15);
    }

    private static void weak() {
        WellPumps x = answered();
        Check.due("14 now is more than 10 each year by 1 / 4", x.weak(), 141);
        x.years(4, 5);
        Check.due("whatever P / Q is now", x.weak(), 141);
        x.by(0, 1);
        x.by(1, 1);
        Check.due("not answered it breaks at once", x.weak(), 451);
        // two buckets are more than ten each year for ever if they are more than 10 / (1 - P / Q)
        int[][] breaks = {{51, 451}, {50, 341}, {40, 231}, {30, 351}, {25, 121}, {20, 251}, {16, 131}, {15, 141},
            {13, 151}, {12, NONE}};
        for (int[] b : breaks) {
            Check.due("weak if two bring " + b[0], answered(b[0]).weak(), b[1]);
        }
        WellPumps y = single();
        Check.due("none", y.weak(), NONE);
        y.by(0, NONE);
        Check.due("farm 0, by 4 / 5", y.weak(), 450);
        WellPumps z = deep(4);
        Check.draw(z, "draw 1 if level + 1 > top");
        z.by(0, 0);
        // to wait is 10 W / (1 - W), to pump 6 / (1 - W) for ever, or now 6 and then to wait
        Check.due("waiting holds while 10 W is 6 at least", z.weak(), 120);
    }

    // ---- promises 28 to 33 ----

    private static void dry() {
        WellPumps x = single();
        x.rain(1, 1, 0, 0);
        for (int years = 0; years <= 20; years++) {
            Check.due("dry(1, " + years + ")", x.dry(1, years), (1L << years) - 1);
            Check.due("dry(0, " + years + ")", x.dry(0, years), (1L << years) - 1);
        }
        x.rain(4, 0, 0, 0);
        Check.due("all rows", x.dry(1, 20), 1L << 40);
        x.rain(0, 4, 0, 0);
        Check.due("no row: level 0 at the begin is none at an end", x.dry(0, 20), 0);
        x.rain(1, 2, 0, 1);
        Check.due("by parts", x.dry(1, 2), 1 * 4 + 3 * 1);
        WellPumps y = new WellPumps();
        wrongLevel("dry", level -> y.dry(level, 3));
        wrongYears("dry", 0, 20, years -> y.dry(0, years));
        Check.index("no level, no years", () -> y.dry(5, 21));
    }

    private static void broken() {
        WellPumps x = single();
        Check.due("first", x.broken(0, 0, 0), 1);
        Check.due("second", x.broken(99, 0, 3), 2);
        Check.index("farm 1", () -> x.broken(0, 1, 0));
        Check.index("farm -1", () -> x.broken(0, -1, 0));
        Check.argument("year -1", () -> x.broken(-1, 0, 0));
        Check.argument("year 100", () -> x.broken(100, 0, 0));
        Check.argument("number -1", () -> x.broken(0, 0, -1));
        Check.argument("number 4", () -> x.broken(0, 0, 4));
        Check.index("no farm, no year, no number", () -> x.broken(100, 1, 4));
        Check.due("two", x.count(4), 2);
        for (int times = 3; times <= 6; times++) {
            Check.due("break " + times, x.broken(50, 0, 1), times);
        }
        Check.due("a seventh", x.broken(2, 0, 0), NONE);
        Check.due("six", x.count(4), 6);
        Check.due("the first counts in its year alone", x.run(1, 4, 0, false, 0), 120);
        Check.argument("a seventh in no year", () -> x.broken(100, 0, 1));
        Check.index("a seventh of no farm", () -> x.broken(1, 1, 1));
    }

    private static void row() {
        WellPumps x = new WellPumps();
        Check.due("an empty row", x.row(), 0);
        Check.feed(x, new byte[] {1, 3, 0, 2});
        Check.due("four years", x.row(), 4);
        Check.due("the tape is used up", x.end(1), false);
        Check.due("four years", x.count(5), 4);
        int[] levels = {0, 1, 4, 4, 6, 6};
        x.well(7, NONE);
        for (int years = 0; years < levels.length; years++) {
            Check.due("by the row, " + years, x.run(0, years, 0, true, 3), levels[years]);
        }
        Check.feed(x, new byte[] {1, 1, 4});
        Check.argument("a byte 4", x::row);
        Check.due("the tape is used up", x.end(1), false);
        Check.feed(x, new byte[] {-1});
        Check.argument("a byte 255", x::row);
        Check.due("the row stays", x.count(5), 4);
        Check.due("the row stays", x.run(0, 2, 0, true, 3), 4);
        Check.due("no text was read", x.fault(), NONE);
        Check.feed(x, new byte[] {2});
        Check.due("another row", x.row(), 1);
        Check.due("in place of the one before", x.run(0, 3, 0, true, 3), 2);
        for (int times = 0; times < 20; times++) {
            x.feed(0, 0, 0, 0, 0);
        }
        Check.due("400 years", x.row(), 400);
        Check.due("an empty row", x.row(), 0);
        Check.due("no years", x.count(5), 0);
    }

    private static void run() {
        WellPumps x = two();
        Check.feed(x, new byte[] {0, 2, 1});
        x.row();
        // levels 2, 0, 2, 1, 0: buckets (1, 1), none, (1, 1), (1, 0)
        int[] due = {120, 80, 0, 0, 0, NONE, NONE, 0};
        for (int what = 0; what < due.length; what++) {
            Check.due("run, " + what, x.run(2, 4, 0, true, what), due[what]);
        }
        int[] none = {0, 0, 0, 2, NONE, NONE, NONE, 0};
        for (int what = 0; what < none.length; what++) {
            Check.due("run of no years, " + what, x.run(2, 0, 0, true, what), none[what]);
        }
        Check.due("level 0 at the begin is none at an end", x.run(0, 1, 0, false, 4), NONE);
        Check.due("it may come later", x.run(0, 9, 0, true, 4), 0);
        x.rain(0, 0, 0, 1);
        Check.due("100 years", x.run(2, 100, 5, false, 1), 4000);
        Check.index("no level", () -> x.run(3, 101, 0, false, 8));
        Check.index("no level", () -> x.run(-1, 1, 0, false, 0));
        Check.argument("101 years", () -> x.run(2, 101, 0, false, 8));
        Check.argument("-1 years", () -> x.run(2, -1, 0, false, 0));
        Check.thrown("another what", () -> x.run(2, 1, 0, false, 8), NoSuchElementException.class);
        Check.thrown("another what", () -> x.run(2, 1, 0, false, -1), NoSuchElementException.class);
        x.rule(0, 0, 0, 1, 1);
        x.force(1);
        Check.due("quarters", x.run(2, 3, 0, false, 0), 3 * 39);
    }

    private static void runBroken() {
        WellPumps x = answered();
        Check.due("nobody breaks", x.run(3, 9, 0, false, 5), NONE);
        x.broken(0, 1, 2);
        Check.due("farm 1 has 14, then nothing", x.run(3, 4, 0, false, 1), 56);
        Check.due("farm 0 has 10 each year", x.run(3, 4, 0, false, 0), 160);
        Check.due("the year behind is the first one", x.run(3, 4, 0, false, 5), 1);
        Check.due("it is not in the run", x.run(3, 1, 0, false, 5), NONE);
        Check.due("it takes what there is", x.run(3, 1, 0, false, 3), 2);
        Check.due("broken runs dry no sooner", x.run(3, 4, 0, false, 4), NONE);
        WellPumps y = answered();
        y.broken(1, 0, 0);
        Check.due("to want less breaks nothing", y.run(3, 9, 0, false, 5), NONE);
        Check.due("but it brings less", y.run(3, 9, 0, false, 0), 320);
        y.broken(4, 1, 1);
        Check.due("to want the same breaks nothing", y.run(3, 9, 0, false, 5), NONE);
        y.broken(7, 0, 3);
        Check.due("to want more does, got or not", y.run(0, 9, 0, false, 5), 8);
        y.broken(8, 0, 0);
        Check.due("a break counts when broken too", y.run(3, 9, 0, false, 0), 280);
        y.broken(7, 0, 1);
        Check.due("of two in one year the later told", y.run(3, 9, 0, false, 5), NONE);
        WellPumps z = answered();
        z.broken(0, 1, 2);
        Check.due("the farm alone is another", z.run(0, 2, 0, false, 5), 1);
        Check.due("draws know of no break", z.wants(1, 3, false, false), 1);
    }

    private static void runBySeed() {
        WellPumps x = new WellPumps();
        x.well(7, NONE);
        x.rain(1, 1, 1, 1);
        int[] seeds = {0, 1, -1, 12345, Integer.MIN_VALUE, Integer.MAX_VALUE};
        for (int seed : seeds) {
            long state = seed & 0xffffffffL;
            int level = 0;
            for (int years = 1; years <= 5; years++) {
                state = (1103515245L * state + 12345) % (1L << 32);
                level = (int) Math.min(7, level + state / (1L << 16) % (1L << 15) % 4);
                Check.due("seed " + seed + ", years " + years, x.run(0, years, seed, false, 3), level);
            }
        }
        x.rain(2, 0, 0, 1);
        // of seed 0 the first bits are 0, of seed 1 they are 16838, which leaves 2: the third part
        Check.due("parts of 0 first", x.run(0, 1, 0, false, 3), 0);
        Check.due("then those of 3", x.run(0, 1, 1, false, 3), 3);
    }

    private static void part() {
        WellPumps x = single();
        x.rain(1, 1, 0, 0);
        long[] due = {0, 2, 6, 16, 40};
        for (int years = 0; years < due.length; years++) {
            Check.due("part of " + years, x.part(0, 1, years), due[years]);
        }
        x.rain(0, 4, 0, 0);
        Check.due("12 years of 4 parts", x.part(0, 1, 12), 12 * (1L << 24));
        Check.due("from 0 one year less", x.part(0, 0, 12), 11 * (1L << 24));
        WellPumps y = three();
        wrongFarmAndLevel("part", y, (farm, level) -> y.part(farm, level, 1));
        wrongYears("part", 0, 12, years -> y.part(0, 0, years));
        Check.index("no farm, no years", () -> y.part(3, 0, 13));
    }

    private static void most() {
        WellPumps x = three();
        Check.due("all as little: the least", x.most(4, 12), 0);
        Check.draw(x, "draw 2");
        Check.draw(x, "draw 1");
        x.by(0, 1);
        x.by(1, 0);
        x.by(2, 0);
        Check.due("farm 1 has two", x.most(4, 1), 1);
        Check.due("no years", x.most(4, 0), 0);
        Check.due("from 1 farm 0 has the one", x.most(1, 3), 0);
        x.by(0, NONE);
        Check.due("farms 1 and 2 have as much: the least", x.most(4, 1), 1);
        WellPumps none = new WellPumps();
        Check.due("no farm", none.most(4, 1), NONE);
        wrongLevel("most", level -> none.most(level, 1));
        wrongYears("most", 0, 12, years -> none.most(0, years));
        Check.index("no level, no years", () -> none.most(5, 13));
    }

    // ---- promises 34 to 39 ----

    private static void edge() {
        int[] due = {5, 5, 5, 5, 5, 4, 4, 4, 4, 4};
        for (int cost = 0; cost <= 9; cost++) {
            WellPumps x = deep(cost);
            Check.due("edge of cost " + cost, x.edge(0, 1), due[cost]);
            Check.due("none at TOP", x.edge(0, 2), NONE);
            Check.due("none at 0", x.edge(0, 0), NONE);
            Check.due("the cost is as it was", x.answer(0, 1), cost < 5 ? 1 : 0);
        }
        for (int cost = 1; cost <= 9; cost++) {
            WellPumps x = stepped(cost);
            Check.due("answer of cost " + cost, x.answer(0, 2), cost < 2 ? 2 : cost < 9 ? 1 : 0);
        }
        Check.due("of two as near the lesser", stepped(5).edge(0, 2), 1);
        Check.due("the greater if it is nearer", stepped(6).edge(0, 2), 9);
        Check.due("its own is none", stepped(9).edge(0, 2), 8);
        WellPumps y = three();
        wrongFarmAndLevel("edge", y, y::edge);
    }

    private static void lasts() {
        WellPumps x = three();
        Check.due("nobody draws", x.lasts(4), NONE);
        Check.due("from 0", x.lasts(0), 0);
        Check.draw(x, "draw 1 if not broken and level > 1");
        Check.draw(x, "draw 1");
        x.by(0, 1);
        for (int level = 0; level <= 4; level++) {
            Check.due("one a year from " + level, x.lasts(level), level);
        }
        x.by(0, 0);
        Check.due("it stops at 1", x.lasts(4), NONE);
        x.well(4, 0);
        Check.due("but the leak does not", x.lasts(4), 2);
        x.rain(0, 0, 0, 1);
        Check.due("without any rain", x.lasts(4), 2);
        x.by(1, 1);
        Check.due("two a year and the leak", x.lasts(4), 2);
        wrongLevel("lasts", x::lasts);
    }

    private static void beside() {
        WellPumps x = new WellPumps();
        x.well(4, 1);
        x.rain(1, 0, 0, 0);
        x.beside(2, 0, 1);
        // the leak takes one each year from 4, 3, 2: the folk get it at once
        int[] got = {0, 1, 2, 3, 3};
        for (int years = 0; years < got.length; years++) {
            Check.due("the folk got by " + years, x.run(4, years, 0, true, 7), got[years]);
            Check.due("nothing is left by " + years, x.run(4, years, 0, true, 6), 0);
        }
        x.beside(2, 0, 0);
        int[] levels = {0, 1, 2, 2};
        for (int years = 0; years < levels.length; years++) {
            Check.due("it rises to its top, " + years, x.run(4, years, 0, true, 6), levels[years]);
        }
        x.beside(7, 7, 3);
        int[] falling = {7, 4, 2, 0, 0};
        for (int years = 0; years < falling.length; years++) {
            Check.due("it falls, " + years, x.run(4, years, 0, true, 6), falling[years]);
        }
        Check.due("they get what they want", x.run(4, 9, 0, true, 7), 9);
        Check.due("the next run begins anew", x.run(4, 0, 0, true, 6), 7);
        x.beside(7, 1, 3);
        Check.due("they get what there is", x.run(4, 9, 0, true, 7), 4);
        x.beside(1, 1, 0);
        int[][] wrong = {{0, 0, 0}, {8, 0, 0}, {3, -1, 0}, {3, 4, 0}, {3, 3, -1}, {3, 3, 4}, {-1, -1, 0}};
        for (int[] w : wrong) {
            Check.argument("beside " + java.util.Arrays.toString(w), () -> x.beside(w[0], w[1], w[2]));
        }
        Check.due("it stays", x.run(4, 9, 0, true, 6), 1);
        Check.due("they want nothing", x.run(4, 9, 0, true, 7), 0);
        x.well(4, NONE);
        x.beside(3, 1, 0);
        Check.due("without a leak nothing comes", x.run(4, 9, 0, true, 6), 1);
        Check.due("the upper well is as without it", x.run(4, 9, 0, true, 3), 4);
    }

    private static void image() {
        WellPumps x = new WellPumps();
        Check.due("no image", x.back(), false);
        x.image();
        x.farm(1, 1, 1, 1);
        Check.due("back", x.back(), true);
        Check.due("no farm", x.count(0), 0);
        x.farm(2, 2, 2, 2);
        x.image();
        x.farm(3, 3, 3, 3);
        Check.due("back again", x.back(), true);
        Check.due("one farm", x.count(0), 1);
        x.farm(4, 4, 4, 4);
        Check.due("the image stays", x.back(), true);
        Check.due("one farm", x.count(0), 1);
        x.feed(0x64726177, 0x20342020, 0, 0, 0);
        Check.argument("a wrong text", x::draw);
        x.feed(1, 1, 1, 1, 1);
        x.back();
        Check.due("fault stays", x.fault(), 5);
        Check.due("the tape stays", x.end(20), true);
        Check.due("a farm behind an image", x.farm(1, 1, 1, 1), 1);
        Check.due("it has no draw", x.by(1, NONE), false);
    }

    private static void imageKeepsAll() {
        WellPumps x = two();
        x.rule(1, 0, 3, 0, 0);
        x.force(1);
        x.broken(0, 0, 2);
        x.beside(3, 1, 0);
        Check.feed(x, new byte[] {1, 1});
        x.row();
        x.years(1, 3);
        x.by(1, NONE);
        x.image();
        String before = everything(x);
        Check.feed(x, new byte[] {3, 0, 2, 2});
        x.row();
        Check.due("another row is another run", everything(x).equals(before), false);
        x.back();
        Check.due("the row as it was", everything(x), before);
        x.well(3, NONE);
        x.back();
        Check.due("TOP as it was", x.count(7), 2);
        x.well(2, 0);
        x.back();
        Check.due("LEAK as it was", x.lasts(2), 2);
        x.well(4, 0);
        x.rain(0, 0, 1, 1);
        x.years(4, 5);
        x.farm(9, 9, 9, 9);
        x.rule(5, 1, 0, 9, 1);
        x.force(2);
        Check.draw(x, "draw 3");
        x.by(0, 1);
        x.by(1, 1);
        x.broken(1, 1, 3);
        x.beside(4, 4, 3);
        x.row();
        Check.due("all is another", everything(x).equals(before), false);
        x.back();
        Check.due("all as it was", everything(x), before);
        Check.index("the third farm is gone", () -> x.by(2, 0));
        Check.index("the second draw is gone", () -> x.by(0, 1));
        Check.index("the third rule is gone", () -> x.force(2));
        Check.due("what comes now is anew", Check.draw(x, "draw 2"), 1);
        x.by(0, 1);
        Check.due("what comes now is anew", x.wants(0, 2, false, false), 2);
        x.back();
        Check.due("the image does not change", everything(x), before);
    }

    private static String everything(WellPumps x) {
        StringBuilder all = new StringBuilder();
        for (int what = 0; what < 9; what++) {
            all.append(x.count(what)).append(' ');
        }
        for (int what = 0; what < 8; what++) {
            all.append(x.run(2, 3, 7, true, what)).append(' ').append(x.run(2, 3, 7, false, what)).append(' ');
        }
        for (int level = 0; level <= 2; level++) {
            for (int farm = 0; farm < 2; farm++) {
                all.append(x.wants(farm, level, false, false)).append(' ').append(x.gains(farm, level, false))
                        .append(' ').append(x.worth(farm, level, false, false)).append(' ');
            }
            all.append(x.next(level, false, 1)).append(' ');
        }
        return all.toString();
    }

    private static void count() {
        WellPumps x = two();
        x.rule(0, 0, 0, 0, 0);
        x.rule(0, 0, 0, 0, 0);
        x.force(2);
        x.broken(0, 0, 0);
        x.rain(1, 1, 1, 0);
        Check.feed(x, new byte[] {1, 1, 1});
        x.row();
        int[] due = {2, 1, 3, 2, 1, 3, 3, 2, 0};
        for (int what = 0; what < due.length; what++) {
            Check.due("count " + what, x.count(what), due[what]);
        }
        Check.due("count -1", x.count(-1), NONE);
        Check.due("count 9", x.count(9), NONE);
        Check.draw(x, "draw 1 if broken or level > 1");
        x.by(0, 1);
        x.by(1, 1);
        Check.due("levels without wishes", x.count(8), 2);
        x.by(1, 0);
        Check.due("one that wishes is enough", x.count(8), 0);
        x.by(0, 0);
        x.by(1, 1);
        Check.due("be it the first", x.count(8), 0);
        x.by(0, NONE);
        x.by(1, NONE);
        Check.due("no wishes", x.count(8), 3);
    }
}
