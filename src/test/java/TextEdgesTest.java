/** The boundary cases of the texts: digits, words, blanks, lines, depth, bytes, and the first wrong byte of each. */
public final class TextEdgesTest {
    private static final int NONE = WellPumps.NONE;

    private TextEdgesTest() {
    }

    public static void main(String[] args) {
        numbersOfLines();
        numbersOfSums();
        words();
        blanks();
        bytes();
        moreMustCome();
        cannotStand();
        lines();
        depth();
        depthTells();
        length();
        firstLine();
        sums();
        facts();
        latestText();
        Check.end("TextEdgesTest");
    }

    private static void right(String text) {
        faultAt(text, NONE);
    }

    private static void faultAt(String text, int due) {
        WellPumps x = new WellPumps();
        Check.due("fault of '" + text + "'", Check.fault(x, text), due);
        Check.due("draws of '" + text + "'", x.count(1), due == NONE ? 1 : 0);
        Check.due("the tape behind '" + text + "'", x.end(1), false);
    }

    /** It must be right, but for what follows. */
    private static void faultBehind(String text, String wrong) {
        faultAt(text + wrong, text.length());
    }

    /** What a farm of three wants by the text. */
    private static int wants(String text, int top, int farm, int level, boolean broken) {
        WellPumps x = new WellPumps();
        x.well(top, NONE);
        for (int times = 0; times < 3; times++) {
            x.farm(1, 2, 3, 0);
        }
        Check.draw(x, text);
        x.by(farm, 0);
        return x.wants(farm, level, broken, false);
    }

    private static boolean holds(String condition) {
        return wants("draw 1 if " + condition, 4, 0, 4, false) == 1;
    }

    // ---- numbers ----

    /** 1 or 2 digits; of draw 0 to 3. */
    private static void numbersOfLines() {
        for (int number = 0; number <= 99; number++) {
            for (String digits : new String[] {"" + number, (number < 10 ? "0" : "") + number}) {
                if (number <= 3) {
                    right("draw " + digits);
                    Check.due("draw " + digits, wants("draw " + digits, 4, 0, 4, false), number);
                } else {
                    faultBehind("draw ", digits);
                }
            }
        }
        for (String digits : new String[] {"000", "001", "003", "010", "100", "999", "0000000001", "4294967297"}) {
            faultBehind("draw ", digits);
            faultBehind("draw 1; draw ", digits + " if broken");
        }
        faultBehind("draw ", "-1");
        faultBehind("draw ", "+1");
    }

    private static void numbersOfSums() {
        for (int number = 0; number <= 99; number++) {
            for (String digits : new String[] {"" + number, (number < 10 ? "0" : "") + number}) {
                right("draw 1 if level < " + digits);
                Check.due("at 4 < " + digits, holds("level < " + digits), 4 < number);
                Check.due("at " + digits + " < 4", holds(digits + " < level"), number < 4);
            }
        }
        for (String digits : new String[] {"100", "000", "099", "999", "2147483648", "00000000000000000000"}) {
            faultBehind("draw 1 if level < ", digits);
            faultBehind("draw 1 if ", digits + " < level");
            faultBehind("draw 1 if 1 + ", digits + " < level");
        }
        faultBehind("draw 1 if ", "-1 < level");
        Check.due("99 less than 99", holds("99 < 99"), false);
        Check.due("98 less than 99", holds("98 < 99"), true);
        Check.due("99 more than 98", holds("99 > 98"), true);
    }

    // ---- words and blanks ----

    /** Words are as long as a to z go on. */
    private static void words() {
        String[] words = {"draw", "if", "or", "and", "not", "broken", "level", "top", "farm"};
        String[] none = {"", "drawz", "dra", "adraw", "iff", "i", "orr", "o", "andd", "an", "no", "nott", "broke",
            "brokenn", "leve", "levels", "to", "topp", "far", "farms", "drawif", "ifnot", "ornot", "andnot",
            "notbroken", "levellevel", "x", "az"};
        for (String word : words) {
            if (!word.equals("draw")) {
                faultBehind("", word + " 1");
            }
            faultBehind("", word.toUpperCase() + " 1");
            if (!word.equals("if")) {
                faultBehind("draw 1 ", word + " broken");
            }
            if (!word.equals("or") && !word.equals("and")) {
                faultBehind("draw 1 if broken ", word + " broken");
            }
        }
        for (String word : none) {
            if (!word.isEmpty()) {
                faultBehind("", word + " 1");
                faultBehind("draw 1 ", word + " broken");
                faultBehind("draw 1 if ", word + " < 1");
                faultBehind("draw 1 if broken ", word + " broken");
                faultBehind("draw 1 if level < 1 + ", word);
            }
        }
        faultBehind("draw 1 if level < ", "< 1");
        right("draw1if not(broken)or level<1and top>level;draw2");
        right("draw1if 1<level and broken");
        right("draw1if 1<2or 3>4and 5<6;draw2");
        faultBehind("draw1if level", "1<2");
        faultBehind("draw1if 1", "level<2");
        faultBehind("draw1", "ifbroken");
        faultBehind("draw1if broken", "1");
        faultBehind("draw 1if ", "brokenor broken");
    }

    /** Blanks (32) may be between all, ahead and behind, and within nothing. */
    private static void blanks() {
        String[] things = {"draw", "1", "if", "not", "(", "level", "+", "2", "<", "top", "or", "broken", ")", "and",
            "farm", ">", "0", ";", "draw", "2"};
        for (int wide = 1; wide <= 3; wide++) {
            String gap = " ".repeat(wide);
            String text = gap + String.join(gap, things) + gap;
            right(text);
            for (int at = 0; at < things.length; at++) {
                String[] other = things.clone();
                other[at] = other[at] + "\t";
                int begin = String.join(gap, java.util.Arrays.copyOf(things, at + 1)).length() + gap.length();
                faultAt(gap + String.join(gap, other) + gap, begin);
            }
        }
        right("draw 1if not(level+2<top or broken)and farm>0;draw 2");
        faultBehind("", "dr aw 1");
        faultBehind("draw 1 ", "i f broken");
        faultBehind("draw 1 ", "0");
        faultBehind("draw 1 if level < 1 ", "0");
        faultBehind("draw 1 if ", "bro ken");
        for (char none : new char[] {9, 10, 11, 12, 13, 0, 31, 33, 127, 128, 160, 255}) {
            faultBehind("", none + "draw 1");
            faultBehind("draw 1", "" + none);
            faultBehind("draw 1 ", "" + none);
            faultBehind("draw", none + "1");
            faultBehind("   ", "" + none);
            faultBehind("", "" + none);
        }
    }

    /** Every byte but a few is a thing of its own that can stand nowhere. */
    private static void bytes() {
        for (int b = 0; b <= 255; b++) {
            char sign = (char) b;
            if (sign != ' ') {
                faultBehind("", sign + "draw 1".substring(sign == 'd' ? 2 : 0));
                boolean digit = sign >= '0' && sign <= '9';
                if (!digit) {
                    faultBehind("draw ", "" + sign);
                    faultBehind("draw 1 if ", (sign == '(' ? ")" : sign + " < 1"));
                }
                if (sign != ';') {
                    faultBehind("draw 1 ", sign + "1");
                }
                if (sign != '<' && sign != '>' && sign != '+') {
                    faultBehind("draw 1 if level ", "" + sign);
                }
                if (sign != ';' && sign != '+') {
                    faultBehind("draw 1 if level < 2 ", "" + sign);
                }
            }
        }
    }

    // ---- the first wrong byte ----

    /** The text's length, if more must come, with blanks behind it too. */
    private static void moreMustCome() {
        String[] texts = {"draw", "draw 1 if", "draw 1 if not", "draw 1 if (", "draw 1 if level", "draw 1 if 1",
            "draw 1 if 99 +", "draw 1 if level <", "draw 1 if level >", "draw 1 if level < 1 +",
            "draw 1 if (level < 1", "draw 1 if (broken", "draw 1 if ((broken)", "draw 1 if broken and",
            "draw 1 if broken or", "draw 1 if broken and not", "draw 1 if broken or (", "draw 1 if broken;",
            "draw 1;", "draw 1; draw", "draw 1; draw 1 if", "draw 1 if top + farm + level + 0"};
        for (String text : texts) {
            for (int blanks = 0; blanks <= 2; blanks++) {
                faultBehind(text + " ".repeat(blanks), "");
                faultBehind("  " + text + " ".repeat(blanks), "");
            }
        }
    }

    private static void cannotStand() {
        faultBehind("", "; draw 1");
        faultBehind("  ", "1");
        faultBehind("", "if broken");
        faultBehind("draw ", "draw 1");
        faultBehind("draw ", "; draw 1");
        faultBehind("draw ", "if broken");
        faultBehind("draw 1 ", "draw 2");
        faultBehind("draw 1 ", "(broken)");
        faultBehind("draw 1; ", "; draw 2");
        faultBehind("draw 1; ", "2");
        faultBehind("draw 1 if ", "; draw 2");
        faultBehind("draw 1 if ", ") < 1");
        faultBehind("draw 1 if ", "< 1");
        faultBehind("draw 1 if ", "+ 1 < 2");
        faultBehind("draw 1 if ", "and broken");
        faultBehind("draw 1 if ", "if broken");
        faultBehind("draw 1 if level ", "; draw 2");
        faultBehind("draw 1 if level ", "and broken");
        faultBehind("draw 1 if level ", ") < 1");
        faultBehind("draw 1 if level ", "= 1");
        faultBehind("draw 1 if level <", "= 1");
        faultBehind("draw 1 if level <", "> 1");
        faultBehind("draw 1 if level < ", "broken");
        faultBehind("draw 1 if level < ", "(1)");
        faultBehind("draw 1 if level < ", "not 1");
        faultBehind("draw 1 if level < ", "+ 1");
        faultBehind("draw 1 if level < 1 ", "< 2");
        faultBehind("draw 1 if level < 1 ", "> 0");
        faultBehind("draw 1 if level < 1 ", ")");
        faultBehind("draw 1 if level < 1 ", "not broken");
        faultBehind("draw 1 if level < 1 ", "if broken");
        faultBehind("draw 1 if level + ", "+ 1 < 2");
        faultBehind("draw 1 if level + ", "< 2");
        faultBehind("draw 1 if level + ", "broken < 2");
        faultBehind("draw 1 if level ", "- 1 < 2");
        faultBehind("draw 1 if broken ", "< 1");
        faultBehind("draw 1 if broken ", "+ 1");
        faultBehind("draw 1 if broken ", ")");
        faultBehind("draw 1 if broken ", "(level < 1)");
        faultBehind("draw 1 if broken ", "not broken");
        faultBehind("draw 1 if broken ", "if level < 1");
        faultBehind("draw 1 if (", ")");
        faultBehind("draw 1 if (level", ") < 1");
        faultBehind("draw 1 if (level < 1 ", "; draw 2");
        faultBehind("draw 1 if (broken", ", broken)");
        faultBehind("draw 1 if not ", "or broken");
        faultBehind("draw 1 if not ", ")");
        faultBehind("draw 1 if not (level", ") < 1");
        right("draw 1 if not level < 1");
        right("draw 1 if not not not broken");
        right("draw 1 if ((level + 1 < 2) and not (broken or farm > 0))");
    }

    // ---- how many ----

    /** LINES, at most 10: of an 11th its first word. */
    private static void lines() {
        StringBuilder text = new StringBuilder("draw 0 if 1 < 0");
        for (int lines = 1; lines <= 10; lines++) {
            String told = text + (lines < 10 ? "; draw 3" : "");
            right(text.toString());
            Check.due(lines + " lines and one more", wants(told, 4, 0, 4, false), lines < 10 ? 3 : 0);
            faultBehind(text + ";", "");
            faultBehind(text + "; ", "");
            faultBehind(text + "; ", lines < 10 ? "4" : "draw 1");
            text.append("; draw ").append(lines % 3).append(" if 1 < 0");
        }
        String ten = "draw 1 if broken;".repeat(9) + " draw 2";
        right(ten);
        Check.due("the tenth line", wants(ten, 4, 0, 4, false), 2);
        faultBehind(ten + ";", "draw 1");
        faultBehind(ten + "  ;  ", "draw 1");
        faultBehind(ten + "; ", "draw");
        faultBehind(ten + "; ", "drawn 1");
        faultBehind(ten + "; ", "; draw 1");
        faultBehind(ten + "; ", "7");
        faultBehind(ten + " ", ": draw 1");
        faultBehind("draw 1 if broken;".repeat(9) + "draw ", "4; draw 1");
    }

    /** ( and not within one another at most 6 deep. */
    private static void depth() {
        for (int bits = 0; bits < 128; bits++) {
            StringBuilder open = new StringBuilder();
            StringBuilder close = new StringBuilder();
            for (int deep = 0; deep < 6; deep++) {
                boolean not = (bits >> deep & 1) != 0;
                open.append(not ? "not " : "( ");
                close.append(not ? "" : ")");
            }
            boolean not = (bits & 64) != 0;
            right("draw 1 if " + open + "broken" + close);
            right("draw 1 if " + open + "level < 1" + close + " or " + open + "broken" + close);
            faultBehind("draw 1 if " + open, (not ? "not broken" : "(broken)") + close);
            faultBehind("draw 1 if broken and " + open, not ? "not" : "(");
        }
        right("draw 1 if (((((broken) or (broken) and not broken)))) and ((((((broken))))))");
        faultBehind("draw 1 if (((((broken) or ((broken and ", "(broken)");
        faultBehind("draw 1 if ((((((broken or ", "(broken)");
        faultBehind("draw 1 if ((((((broken) or (broken and ", "(broken)");
        right("draw 1 if not broken and not broken and not broken and not broken and not broken and not broken"
                + " and not broken and not broken or not broken");
        right("draw 1 if " + "(broken) and ".repeat(12) + "(broken)");
        right("draw 1 if not not not not not not broken; draw 1 if not not not not not not broken");
        right("draw 1 if ((((((broken)))))); draw 1 if ((((((broken))))))");
        // behind six it is one too many wherever it stands, and what follows is not looked at
        faultBehind("draw 1 if ((((((", "(");
        faultBehind("draw 1 if ((((((", "((((((((");
        faultBehind("draw 1 if ((((((", "not");
        faultBehind("draw 1 if ((((((", "nota");
        faultBehind("draw 1 if ((((((level ", "(");
    }

    private static void depthTells() {
        for (int deep = 1; deep <= 6; deep++) {
            Check.due(deep + " nots", holds("not ".repeat(deep) + "broken"), deep % 2 == 1);
            Check.due(deep + " brackets", holds("(".repeat(deep) + "broken or level > 3" + ")".repeat(deep)), true);
        }
        Check.due("not of what stands in brackets", holds("not (not (not (broken)))"), true);
        Check.due("a not ends with its atom", holds("not (broken) and not (broken)"), true);
        Check.due("a not ends with its atom", holds("not broken or level < 0"), true);
        Check.due("a not ends with its atom", holds("not level > 0 or level > 0"), true);
        Check.due("a bracket ends with its )", holds("(broken and broken) or level > 0"), true);
        Check.due("a bracket ends with its )", holds("broken and (broken or level > 0)"), false);
    }

    /** As many as 400 bytes. */
    private static void length() {
        String text = "draw 1 if level < 1";
        for (int sums = 0; sums < 190; sums++) {
            text += "+1";
        }
        Check.due("399", text.length(), 399);
        right(text);
        right(text + " ");
        right(" " + text);
        right(text + "2");
        faultBehind(text, "x");
        faultBehind(text, "<");
        faultBehind(text + "+", "");
        Check.due("all of it counts: 4 less than 191", holds(text.substring(10)), true);
        String ones = "+1".repeat(170);
        Check.due("273 are less than 274", holds("99 + 99 + 75 < level + 50 + 50" + ones), true);
        Check.due("274 are not", holds("99 + 99 + 76 < level + 50 + 50" + ones), false);
        faultBehind("draw 1 if " + "(".repeat(6), ")".repeat(300));
        faultAt("(".repeat(400), 0);
        faultAt("draw 1 if " + "(".repeat(390), 16);
        faultAt("draw 1 if " + "not ".repeat(97), 34);
        faultAt("draw 1;".repeat(57), 70);
        faultAt("d".repeat(400), 0);
        faultAt("1".repeat(400), 0);
        faultAt("draw " + "1".repeat(395), 5);
        faultAt("draw 1" + " ".repeat(393) + "1", 399);
        faultAt(" ".repeat(396) + "draw", 400);
        right(" ".repeat(394) + "draw 1");
        right(" ".repeat(395) + "draw1");
    }

    // ---- what a text tells at its edges ----

    /** The NUMBER of the first LINE that holds; 0 without one. */
    private static void firstLine() {
        String text = "draw 3 if level < 1; draw 2 if level < 2; draw 1 if level < 3";
        int[] due = {3, 2, 1, 0, 0};
        for (int level = 0; level <= 4; level++) {
            Check.due("at " + level, wants(text, 4, 0, level, false), due[level]);
            Check.due("at " + level + " broken", wants(text, 4, 0, level, true), due[level]);
        }
        Check.due("draw 0 holds too", wants("draw 0; draw 3", 4, 0, 4, false), 0);
        Check.due("draw 0 at 4", wants("draw 0 if level > 3; draw 3", 4, 0, 4, false), 0);
        Check.due("draw 0 not at 3", wants("draw 0 if level > 3; draw 3", 4, 0, 3, false), 3);
        Check.due("without if at once", wants("draw 2; draw 3 if level > 0", 4, 0, 4, false), 2);
        Check.due("no line holds", wants("draw 3 if broken; draw 2 if broken", 4, 0, 4, false), 0);
        Check.due("broken the first", wants("draw 3 if broken; draw 2 if broken", 4, 0, 4, true), 3);
    }

    /** < and > of sums that are one less, as much, one more. */
    private static void sums() {
        int[] numbers = {3, 4, 5};
        for (int number : numbers) {
            Check.due("level < " + number, holds("level < " + number), 4 < number);
            Check.due("level > " + number, holds("level > " + number), 4 > number);
            Check.due(number + " < level", holds(number + " < level"), number < 4);
            Check.due(number + " > level", holds(number + " > level"), number > 4);
            Check.due("top + 0 < " + number, holds("top + 0 < " + number), 4 < number);
            Check.due("1 + level < " + number + " + 1", holds("1 + level < " + number + " + 1"), 4 < number);
            Check.due("level + top + 99 > 103 + " + number, holds("level + top + 99 > 51 + 52 + " + number),
                    4 > number);
        }
        Check.due("all parts count", holds("level + level + level + level < 16"), false);
        Check.due("all parts count", holds("level + level + level + level < 17"), true);
        Check.due("all parts count", holds("16 > level + level + level + level"), false);
        Check.due("all parts count", holds("17 > level + level + level + level"), true);
        Check.due("0 < 0", holds("0 < 0"), false);
        Check.due("0 > 0", holds("0 > 0"), false);
        Check.due("00 < 01", holds("00 < 01"), true);
    }

    /** level 0 to TOP, top 1 to 7, farm 0 to 2. */
    private static void facts() {
        for (int top = 1; top <= 7; top++) {
            for (int farm = 0; farm <= 2; farm++) {
                for (int level = 0; level <= top; level++) {
                    String at = " at " + level + " of " + top + " for " + farm;
                    Check.due("level" + at, wants(exactly("level", level), top, farm, level, false), 1);
                    Check.due("top" + at, wants(exactly("top", top), top, farm, level, true), 1);
                    Check.due("farm" + at, wants(exactly("farm", farm), top, farm, level, false), 1);
                    Check.due("all" + at, wants(exactly("farm + level + level + top", farm + 2 * level + top), top,
                            farm, level, true), 1);
                    Check.due("broken" + at, wants("draw 1 if broken; draw 2", top, farm, level, false), 2);
                    Check.due("broken" + at, wants("draw 1 if broken; draw 2", top, farm, level, true), 1);
                }
            }
        }
    }

    private static String exactly(String sum, int number) {
        return "draw 2 if " + sum + " < " + number + "; draw 3 if " + sum + " > " + number + "; draw 1";
    }

    /** fault() tells of the latest text that was read; none ahead of any. */
    private static void latestText() {
        WellPumps x = new WellPumps();
        Check.due("ahead of any", x.fault(), NONE);
        Check.feed(x, "draw 9");
        Check.due("a text on the tape was not read yet", x.fault(), NONE);
        Check.argument("draw", x::draw);
        Check.due("now it was", x.fault(), 5);
        Check.due("asked again", x.fault(), 5);
        Check.feed(x, "  draw 1");
        Check.due("the next one was not read yet", x.fault(), 5);
        x.end(6);
        Check.argument("the first bytes of it", x::draw);
        Check.due("more must come", x.fault(), 6);
        Check.due("an empty one is right", x.draw(), 0);
        Check.due("no fault", x.fault(), NONE);
        Check.feed(x, "x");
        Check.argument("a row is no text", x::row);
        Check.due("no fault", x.fault(), NONE);
        Check.feed(x, "x");
        Check.argument("but a draw is", x::draw);
        Check.due("fault at 0", x.fault(), 0);
        x.image();
        Check.draw(x, "draw 1");
        x.back();
        Check.due("fault is no part of the image", x.fault(), NONE);
        Check.due("but the draws are", x.count(1), 1);
    }
}
