import java.util.NoSuchElementException;

/**
 * Each call that may be refused: which exception is thrown, of several the one told first, and that nothing changes
 * but the tape, where it is used up, and fault(), where a text is read. Questions that are answered change nothing
 * either.
 */
public final class RefusalsTest {
    private static final int NONE = WellPumps.NONE;
    private static final int MIN = Integer.MIN_VALUE;
    private static final int MAX = Integer.MAX_VALUE;
    /** What lies on the tape when a call is asked. */
    private static final String ON_TAPE = "draw 2";

    private interface Call {
        void make(WellPumps x);
    }

    private interface Farm {
        void ask(WellPumps x, int farm);
    }

    private interface Level {
        void ask(WellPumps x, int level);
    }

    private static boolean isFull;
    private static String some;
    private static String full;
    private static String kept;

    private RefusalsTest() {
    }

    public static void main(String[] args) {
        some = Seen.of(some(), 0, 1);
        full = Seen.of(full(), 0, 1, 5);
        WellPumps image = some();
        image.back();
        kept = Seen.of(image, 2);
        Check.due("the image is another", kept.equals(some), false);
        isFull = false;
        numbers();
        indexes();
        levels();
        spans();
        firstTold();
        texts();
        rows();
        softly();
        questions();
        isFull = true;
        noRoom();
        noImage();
        Check.end("RefusalsTest");
    }

    // ---- wells to ask ----

    /** TOP 7; an image of one farm and three draws is kept, then there are two farms, three rules, four draws. */
    private static WellPumps some() {
        WellPumps x = new WellPumps();
        x.well(5, 2);
        x.rain(2, 1, 0, 1);
        x.years(2, 3);
        x.farm(11, 23, 31, 1);
        Check.draw(x, "draw 1");
        Check.draw(x, "draw 2 if level > 1");
        Check.draw(x, "draw 3 if not broken");
        x.by(0, 2);
        Check.feed(x, new byte[] {2, 0, 1});
        x.row();
        x.image();
        x.well(7, 5);
        x.rain(1, 0, 2, 0);
        x.years(3, 5);
        x.farm(17, 18, 29, 2);
        x.rule(2, 1, 1, 13, 3);
        x.rule(5, 2, 0, 98, 1);
        x.force(1);
        Check.draw(x, "draw 3 if broken and level > 3; draw 1 if farm < 1 or level > 2");
        x.by(0, 0);
        x.by(1, 1);
        x.broken(0, 1, 0);
        x.broken(2, 0, 3);
        x.beside(6, 3, 1);
        Check.feed(x, new byte[] {1, 3, 0, 2});
        x.row();
        Check.fault(x, "draw 1 if levels > 2");
        Check.feed(x, ON_TAPE);
        return x;
    }

    /** The same with as much of all as there may be. */
    private static WellPumps full() {
        WellPumps x = some();
        x.end(0);
        x.farm(31, 37, 41, 3);
        x.rule(1, 0, 2, 50, 4);
        x.rule(9, 7, 3, 99, 4);
        Check.draw(x, "draw 3");
        Check.draw(x, "draw 1 if level < 4");
        x.by(2, 5);
        for (int year = 3; year < 7; year++) {
            x.broken(year, year % 3, 2);
        }
        Check.fault(x, "draw 1 if levels > 2");
        Check.feed(x, ON_TAPE);
        return x;
    }

    private static void allStays(String call, WellPumps x) {
        if (isFull) {
            Check.due(call + ": all stays", Seen.of(x, 0, 1, 5), full);
        } else {
            Check.due(call + ": all stays", Seen.of(x, 0, 1), some);
        }
    }

    private static void imageStays(String call, WellPumps x) {
        Check.due(call + ": there is an image", x.back(), true);
        // fault() is no part of the image: the one of now is told
        Check.due(call + ": the image stays", Seen.of(x, 2), kept);
    }

    private static void tapeStays(String call, WellPumps x) {
        Check.due(call + ": as many bytes", x.feed(0, 0, 0, 0, 0), ON_TAPE.length() + 20);
        x.end(ON_TAPE.length());
        Check.due(call + ": the same bytes", x.draw(), 3);
        x.by(0, 3);
        Check.due(call + ": the same text", x.wants(0, 0, false, false), 2);
    }

    private static void refused(String call, Call made, Class<? extends RuntimeException> due) {
        WellPumps x = isFull ? full() : some();
        Check.thrown(call, () -> made.make(x), due);
        allStays(call, x);
        imageStays(call, x);
        tapeStays(call, x);
    }

    private static void argument(String call, Call made) {
        refused(call, made, IllegalArgumentException.class);
    }

    private static void index(String call, Call made) {
        refused(call, made, IndexOutOfBoundsException.class);
    }

    private static void unsupported(String call, Call made) {
        refused(call, made, UnsupportedOperationException.class);
    }

    /** It answers, and changes nothing. */
    private static void asked(String call, Call made) {
        WellPumps x = isFull ? full() : some();
        made.make(x);
        allStays(call, x);
        imageStays(call, x);
        tapeStays(call, x);
    }

    // ---- numbers that are none ----

    private static void numbers() {
        for (int n : new int[] {0, 8, -1, MIN, MAX}) {
            argument("well(" + n + ", 3)", x -> x.well(n, 3));
        }
        for (int n : new int[] {-2, 8, MIN, MAX}) {
            argument("well(3, " + n + ")", x -> x.well(3, n));
        }
        for (int n : new int[] {-1, 5, MIN, MAX}) {
            argument("rain(" + n + ", 1, 1, 1)", x -> x.rain(n, 1, 1, 1));
            argument("rain(1, " + n + ", 1, 1)", x -> x.rain(1, n, 1, 1));
            argument("rain(1, 1, " + n + ", 1)", x -> x.rain(1, 1, n, 1));
            argument("rain(1, 1, 1, " + n + ")", x -> x.rain(1, 1, 1, n));
        }
        argument("rain of no parts", x -> x.rain(0, 0, 0, 0));
        argument("rain of five parts", x -> x.rain(2, 1, 1, 1));
        argument("rain of one part too many, and one below 0", x -> x.rain(3, 2, -1, 0));
        argument("rain whose sum goes round", x -> x.rain(MAX, MAX, 4, 0));
        int[][] years = {{0, 2}, {0, 1}, {1, 1}, {4, 4}, {5, 5}, {5, 6}, {1, 6}, {-1, 2}, {3, 2}, {1, 0}, {-2, -1},
            {1, MAX}, {MIN, 2}, {MIN, MIN}};
        for (int[] n : years) {
            argument("years(" + n[0] + ", " + n[1] + ")", x -> x.years(n[0], n[1]));
        }
        farmAndRule();
        int[][] beside = {{0, 0, 0}, {8, 0, 0}, {-1, 0, 0}, {3, -1, 1}, {3, 4, 1}, {1, 2, 0}, {7, 8, 0}, {3, 1, -1},
            {3, 1, 4}, {MIN, 0, 0}, {3, MIN, 0}, {3, MAX, 0}, {3, 1, MIN}, {MAX, MAX, MAX}};
        for (int[] n : beside) {
            argument("beside(" + n[0] + ", " + n[1] + ", " + n[2] + ")", x -> x.beside(n[0], n[1], n[2]));
        }
    }

    private static void farmAndRule() {
        for (int n : new int[] {-1, 100, MIN, MAX}) {
            argument("farm(" + n + ", 1, 1, 1)", x -> x.farm(n, 1, 1, 1));
            argument("farm(1, " + n + ", 1, 1)", x -> x.farm(1, n, 1, 1));
            argument("farm(1, 1, " + n + ", 1)", x -> x.farm(1, 1, n, 1));
            argument("rule(1, 1, 1, " + n + ", 1)", x -> x.rule(1, 1, 1, n, 1));
        }
        for (int n : new int[] {-1, 10, MIN, MAX}) {
            argument("farm(1, 1, 1, " + n + ")", x -> x.farm(1, 1, 1, n));
            argument("rule(" + n + ", 1, 1, 1, 1)", x -> x.rule(n, 1, 1, 1, 1));
        }
        for (int n : new int[] {-1, 8, MIN, MAX}) {
            argument("rule(1, " + n + ", 1, 1, 1)", x -> x.rule(1, n, 1, 1, 1));
        }
        for (int n : new int[] {-1, 4, MIN, MAX}) {
            argument("rule(1, 1, " + n + ", 1, 1)", x -> x.rule(1, 1, n, 1, 1));
            argument("broken(1, 1, " + n + ")", x -> x.broken(1, 1, n));
        }
        for (int n : new int[] {-1, 5, MIN, MAX}) {
            argument("rule(1, 1, 1, 1, " + n + ")", x -> x.rule(1, 1, 1, 1, n));
        }
        for (int n : new int[] {-1, 100, MIN, MAX}) {
            argument("broken(" + n + ", 1, 1)", x -> x.broken(n, 1, 1));
        }
    }

    // ---- no such farm, level, draw, rule ----

    private static void indexes() {
        for (int n : new int[] {-1, 2, MIN, MAX}) {
            farm("by", n, (x, farm) -> x.by(farm, 0));
            farm("by none", n, (x, farm) -> x.by(farm, NONE));
            farm("wants", n, (x, farm) -> x.wants(farm, 0, false, false));
            farm("wants, got", n, (x, farm) -> x.wants(farm, 0, true, true));
            farm("gains", n, (x, farm) -> x.gains(farm, 0, false));
            farm("worth", n, (x, farm) -> x.worth(farm, 0, false, false));
            farm("answer", n, (x, farm) -> x.answer(farm, 0));
            farm("owner", n, (x, farm) -> x.owner(farm, 0));
            farm("near", n, (x, farm) -> x.near(farm, 0, 1));
            farm("rest", n, (x, farm) -> x.rest(farm, 0, 1));
            farm("restWorth", n, (x, farm) -> x.restWorth(farm, 0, 1, true));
            farm("part", n, (x, farm) -> x.part(farm, 0, 1));
            farm("edge", n, (x, farm) -> x.edge(farm, 0));
            farm("broken", n, (x, farm) -> x.broken(0, farm, 0));
        }
        for (int n : new int[] {-1, 3, MIN, MAX}) {
            index("force(" + n + ")", x -> x.force(n));
        }
        for (int n : new int[] {-2, 4, MIN, MAX}) {
            index("by(0, " + n + ")", x -> x.by(0, n));
        }
        for (int n : new int[] {-1, 4, MIN, MAX}) {
            index("pacts(" + n + ")", x -> x.pacts(n));
        }
    }

    private static void farm(String call, int farm, Farm asked) {
        index(call + " of farm " + farm, x -> asked.ask(x, farm));
    }

    private static void levels() {
        for (int n : new int[] {-1, 8, MIN, MAX}) {
            level("wants", n, (x, level) -> x.wants(1, level, false, false));
            level("gains", n, (x, level) -> x.gains(1, level, true));
            level("next from", n, (x, level) -> x.next(level, false, 0));
            level("next to", n, (x, level) -> x.next(0, true, level));
            level("worth", n, (x, level) -> x.worth(1, level, true, false));
            level("answer", n, (x, level) -> x.answer(1, level));
            level("owner", n, (x, level) -> x.owner(1, level));
            level("owned", n, (x, level) -> x.owned(level, false));
            level("lost", n, (x, level) -> x.lost(level));
            level("near", n, (x, level) -> x.near(1, level, 8));
            level("rest", n, (x, level) -> x.rest(1, level, 8));
            level("restWorth", n, (x, level) -> x.restWorth(1, level, 8, false));
            level("nearest", n, (x, level) -> x.nearest(level, 1));
            level("dry", n, (x, level) -> x.dry(level, 0));
            level("run", n, (x, level) -> x.run(level, 0, 1, true, 3));
            level("part", n, (x, level) -> x.part(1, level, 0));
            level("most", n, (x, level) -> x.most(level, 0));
            level("edge", n, (x, level) -> x.edge(1, level));
            level("lasts", n, (x, level) -> x.lasts(level));
        }
    }

    private static void level(String call, int level, Level asked) {
        index(call + " at level " + level, x -> asked.ask(x, level));
    }

    // ---- years that are none ----

    private static void spans() {
        for (int n : new int[] {0, 9, -1, MIN, MAX}) {
            argument("near of " + n, x -> x.near(1, 7, n));
            argument("rest of " + n, x -> x.rest(1, 7, n));
            argument("restWorth of " + n, x -> x.restWorth(1, 7, n, false));
            argument("nearest of " + n, x -> x.nearest(7, n));
        }
        for (int n : new int[] {-1, 21, MIN, MAX}) {
            argument("dry of " + n, x -> x.dry(7, n));
        }
        for (int n : new int[] {-1, 13, MIN, MAX}) {
            argument("part of " + n, x -> x.part(1, 7, n));
            argument("most of " + n, x -> x.most(7, n));
        }
        for (int n : new int[] {-1, 101, MIN, MAX}) {
            argument("run of " + n, x -> x.run(7, n, 1, false, 0));
        }
        for (int n : new int[] {-1, 8, MIN, MAX}) {
            refused("run, " + n, x -> x.run(7, 1, 1, false, n), NoSuchElementException.class);
            refused("run of no years, " + n, x -> x.run(7, 0, 1, true, n), NoSuchElementException.class);
        }
    }

    // ---- of several the one told first ----

    private static void firstTold() {
        index("near: farm and years", x -> x.near(2, 7, 0));
        index("near: level and years", x -> x.near(1, 8, 9));
        index("rest: farm and years", x -> x.rest(2, 7, 0));
        index("rest: level and years", x -> x.rest(1, 8, 9));
        index("restWorth: farm and years", x -> x.restWorth(2, 7, 0, true));
        index("restWorth: level and years", x -> x.restWorth(1, 8, 9, true));
        index("nearest: level and years", x -> x.nearest(8, 0));
        index("dry: level and years", x -> x.dry(8, 21));
        index("part: farm and years", x -> x.part(2, 7, 13));
        index("part: level and years", x -> x.part(1, 8, -1));
        index("most: level and years", x -> x.most(8, 13));
        index("broken: farm and year", x -> x.broken(100, 2, 0));
        index("broken: farm and number", x -> x.broken(0, 2, 4));
        index("broken: all", x -> x.broken(-1, -1, -1));
        index("run: level and years", x -> x.run(8, 101, 0, false, 0));
        index("run: level and what", x -> x.run(8, 1, 0, false, 8));
        index("run: all", x -> x.run(-1, -1, 0, true, -1));
        argument("run: years and what", x -> x.run(7, 101, 0, false, 8));
    }

    // ---- what uses the tape up ----

    private static void texts() {
        WellPumps x = some();
        x.end(0);
        Check.feed(x, "draw 1; draw");
        Check.argument("a wrong text", x::draw);
        Check.due("a wrong text uses the tape up", x.end(1), false);
        Check.due("its fault is told", x.fault(), 12);
        Check.due("no draw comes of it", x.count(1), 4);
        Check.fault(x, "draw 1 if levels > 2");
        allStays("a wrong text", x);
        imageStays("a wrong text", x);
        Check.due("the next draw has the next number", Check.draw(x, "draw 2"), 3);
    }

    private static void rows() {
        int[] wrong = {4, 127, -128, -1, ' ', '0'};
        for (int b : wrong) {
            for (int at = 0; at < 3; at++) {
                WellPumps x = some();
                x.end(0);
                byte[] bytes = {3, 3, 3};
                bytes[at] = (byte) b;
                Check.feed(x, bytes);
                String call = "a row with " + b + " at " + at;
                Check.argument(call, x::row);
                Check.due(call + " uses the tape up", x.end(1), false);
                allStays(call, x);
                imageStays(call, x);
            }
        }
    }

    // ---- refused by an answer ----

    private static void softly() {
        asked("end(-1)", x -> Check.due("end(-1)", x.end(-1), false));
        asked("end(min)", x -> Check.due("end(min)", x.end(MIN), false));
        asked("end(7)", x -> Check.due("end of more than there is", x.end(ON_TAPE.length() + 1), false));
        asked("end(max)", x -> Check.due("end(max)", x.end(MAX), false));
        asked("end(6)", x -> Check.due("end of all there is", x.end(ON_TAPE.length()), true));
        for (int n : new int[] {-1, 9, MIN, MAX}) {
            asked("count " + n, x -> Check.due("count " + n, x.count(n), NONE));
        }
        asked("force again", x -> Check.due("force again", x.force(1), false));
        asked("by again", x -> Check.due("by again", x.by(1, 1), false));
        asked("the same well", x -> x.well(7, 5));
    }

    // ---- questions ----

    private static void questions() {
        questionsOfNow();
        questionsForEver();
    }

    private static void questionsOfNow() {
        asked("fault", WellPumps::fault);
        asked("counts", x -> {
            for (int what = 0; what <= 8; what++) {
                x.count(what);
            }
        });
        asked("wants", x -> x.wants(1, 7, true, true));
        asked("gains", x -> x.gains(1, 7, true));
        asked("next", x -> x.next(7, true, 7));
        asked("dry", x -> x.dry(7, 20));
        asked("run", x -> x.run(7, 100, 5, false, 0));
        asked("run by the row", x -> x.run(7, 100, 5, true, 7));
        asked("part", x -> x.part(1, 7, 12));
        asked("most", x -> x.most(7, 12));
        asked("lasts", x -> x.lasts(7));
    }

    private static void questionsForEver() {
        asked("worth", x -> x.worth(1, 7, true, false));
        asked("judge", WellPumps::judge);
        asked("answer", x -> x.answer(1, 7));
        asked("owner", x -> x.owner(1, 7));
        asked("owned", x -> x.owned(7, true));
        asked("lost", x -> x.lost(7));
        asked("near", x -> x.near(1, 7, 8));
        asked("rest", x -> x.rest(1, 7, 8));
        asked("restWorth", x -> x.restWorth(1, 7, 8, true));
        asked("nearest", x -> x.nearest(7, 8));
        asked("pacts", x -> x.pacts(3));
        asked("weak", WellPumps::weak);
        asked("edge", x -> x.edge(1, 6));
    }

    // ---- full ----

    private static void noRoom() {
        unsupported("a fourth farm", x -> x.farm(1, 2, 3, 4));
        unsupported("a sixth rule", x -> x.rule(1, 2, 3, 4, 0));
        argument("a fourth farm that is none", x -> x.farm(1, 2, 100, 4));
        argument("a fourth farm that is none", x -> x.farm(1, 2, 3, -1));
        argument("a sixth rule that is none", x -> x.rule(1, 2, 3, 4, 5));
        argument("a sixth rule that is none", x -> x.rule(-1, 2, 3, 4, 4));
        asked("a seventh break", x -> Check.due("a seventh break", x.broken(9, 2, 0), NONE));
        index("a seventh break of no farm", x -> x.broken(9, 3, 0));
        argument("a seventh break in no year", x -> x.broken(100, 2, 0));
        argument("a seventh break by no number", x -> x.broken(9, 2, 4));
        index("farm 3", x -> x.wants(3, 0, false, false));
        index("rule 5", x -> x.force(5));
        index("draw 6", x -> x.by(0, 6));
        index("pacts of draw 6", x -> x.pacts(6));
        noRoomForText("a seventh draw", ON_TAPE, NONE, UnsupportedOperationException.class);
        noRoomForText("a seventh draw without a line", "", NONE, UnsupportedOperationException.class);
        noRoomForText("a seventh draw that is wrong", "draw 1 ,", 7, IllegalArgumentException.class);
    }

    private static void noRoomForText(String call, String text, int fault, Class<? extends RuntimeException> due) {
        WellPumps x = full();
        x.end(0);
        Check.feed(x, text);
        Check.thrown(call, x::draw, due);
        Check.due(call + " uses the tape up", x.end(1), false);
        Check.due(call + " was read", x.fault(), fault);
        Check.fault(x, "draw 1 if levels > 2");
        allStays(call, x);
        imageStays(call, x);
    }

    private static void noImage() {
        WellPumps x = new WellPumps();
        x.farm(1, 2, 3, 4);
        Check.draw(x, "draw 1");
        x.by(0, 0);
        Check.fault(x, "draw 5");
        Check.feed(x, ON_TAPE);
        String before = Seen.of(x, 0);
        Check.due("back without an image", x.back(), false);
        Check.due("back again", x.back(), false);
        Check.due("nothing happens", Seen.of(x, 0), before);
        Check.due("the tape stays", x.end(ON_TAPE.length() + 1), false);
        Check.due("it is the same", x.draw(), 1);
    }
}
