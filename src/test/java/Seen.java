/**
 * All of a WellPumps that its calls can show, as one text: two objects with the same text are in the same state, but
 * for the tape and the image. It forces rules and goes by draws to see them, and puts all back as it was.
 */
final class Seen {
    private final WellPumps pumps;
    private final StringBuilder text = new StringBuilder();
    private final int farms;
    private final int draws;
    private final int rules;
    private final int inForce;
    private final int top;

    private Seen(WellPumps pumps) {
        this.pumps = pumps;
        farms = pumps.count(0);
        draws = pumps.count(1);
        rules = pumps.count(2);
        inForce = pumps.count(3);
        top = pumps.count(7);
    }

    /** By farm the draw it should go by is told: which one it is could not be asked without changing it. */
    static String of(WellPumps pumps, int... goneBy) {
        Seen seen = new Seen(pumps);
        seen.counts();
        seen.rainAndLeak();
        seen.runs();
        seen.goneBy(goneBy);
        seen.draws();
        seen.rulesAndFarms();
        seen.putBack(goneBy);
        return seen.text.toString();
    }

    private void tell(String what, long value) {
        text.append(' ').append(what).append(value);
    }

    private void counts() {
        for (int what = 0; what <= 8; what++) {
            tell("count", pumps.count(what));
        }
        tell("fault", pumps.fault());
    }

    private void rainAndLeak() {
        for (int to = 0; to <= Math.min(3, top); to++) {
            tell("rain", pumps.next(0, false, to));
        }
        for (int level = 1; level <= top; level++) {
            tell("leak", pumps.next(level, false, level));
        }
    }

    private void runs() {
        for (int what = 0; what <= 7; what++) {
            tell("run", pumps.run(top, 100, 7, false, what));
            tell("told", pumps.run(0, 4, 7, true, what));
        }
        for (int years = 0; years <= 3; years++) {
            for (int farm = 0; farm < farms; farm++) {
                tell("had", pumps.run(top, years, 7, false, farm));
            }
            tell("row", pumps.run(0, years, 7, true, 3));
            tell("lower", pumps.run(top, years, 7, true, 6));
        }
    }

    /** Whether each farm goes by another draw than is said; none goes by one behind this. */
    private void goneBy(int[] goneBy) {
        for (int farm = 0; farm < farms; farm++) {
            tell("other", pumps.by(farm, goneBy[farm]) ? 1 : 0);
            pumps.by(farm, WellPumps.NONE);
        }
    }

    private void draws() {
        for (int draw = 0; draw < draws && farms > 0; draw++) {
            pumps.by(0, draw);
            for (int level = 0; level <= top; level += 2) {
                tell("wants", pumps.wants(0, level, false, false));
            }
            tell("broken", pumps.wants(0, top, true, false));
        }
    }

    /** By the first draw each farm alone, under each rule. */
    private void rulesAndFarms() {
        for (int farm = 0; farm < farms && draws > 0; farm++) {
            pumps.by(0, WellPumps.NONE);
            pumps.by(farm, 0);
            for (int rule = 0; rule < rules; rule++) {
                pumps.force(rule);
                tell("gains", pumps.gains(farm, top, false));
                tell("deep", pumps.gains(farm, top - 1, true));
            }
            pumps.force(0);
            tell("above", pumps.worth(farm, top, false, false));
            tell("below", pumps.worth(farm, top, false, true));
            pumps.by(farm, WellPumps.NONE);
        }
    }

    private void putBack(int[] goneBy) {
        pumps.force(inForce);
        for (int farm = 0; farm < farms; farm++) {
            pumps.by(farm, goneBy[farm]);
        }
    }
}
