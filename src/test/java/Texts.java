import java.util.ArrayList;
import java.util.HashSet;
import java.util.List;
import java.util.Set;

/**
 * The texts of draws, done in another way than the class does them: the first wrong byte by all stacks that the
 * grammar leaves open, and what a text tells by splitting it where it can be split.
 */
final class Texts {
    private static final int DEEPEST = 6;

    private record Word(String text, int begin) {
    }

    private Texts() {
    }

    private static List<Word> words(String text) {
        List<Word> words = new ArrayList<>();
        int at = 0;
        while (at < text.length()) {
            int to = at + 1;
            while (to < text.length() && kind(text.charAt(at)) < 2 && kind(text.charAt(to)) == kind(text.charAt(at))) {
                to++;
            }
            if (text.charAt(at) != ' ') {
                words.add(new Word(text.substring(at, to), at));
            }
            at = to;
        }
        return words;
    }

    private static int kind(char sign) {
        if (sign >= 'a' && sign <= 'z') {
            return 0;
        }
        return sign >= '0' && sign <= '9' ? 1 : 2;
    }

    /** The first wrong byte, or -1. */
    static int fault(String text) {
        Set<List<String>> open = new HashSet<>();
        open.add(List.of("TEXT"));
        for (Word word : words(text)) {
            Set<List<String>> then = new HashSet<>();
            for (List<String> stack : open) {
                expand(stack, word.text(), then);
            }
            if (then.isEmpty()) {
                return word.begin();
            }
            open = then;
        }
        for (List<String> stack : open) {
            if (stack.stream().allMatch(Texts::mayBeNothing)) {
                return -1;
            }
        }
        return text.length();
    }

    private static boolean mayBeNothing(String symbol) {
        return symbol.equals("TEXT") || symbol.startsWith("REST") || symbol.equals("IFS") || symbol.equals("PLUS")
                || symbol.startsWith("ORS") || symbol.startsWith("ANDS");
    }

    private static void expand(List<String> stack, String word, Set<List<String>> then) {
        if (stack.isEmpty()) {
            return;
        }
        String symbol = stack.get(0);
        List<String> rest = stack.subList(1, stack.size());
        if (Character.isUpperCase(symbol.charAt(0))) {
            for (List<String> made : madeOf(symbol)) {
                List<String> all = new ArrayList<>(made);
                all.addAll(rest);
                expand(all, word, then);
            }
        } else if (fits(symbol, word)) {
            then.add(new ArrayList<>(rest));
        }
    }

    private static boolean fits(String symbol, String word) {
        if (symbol.equals("#99")) {
            return word.matches("[0-9]{1,2}");
        }
        if (symbol.equals("#3")) {
            return word.matches("0?[0-3]");
        }
        return symbol.equals(word);
    }

    private static List<List<String>> madeOf(String symbol) {
        String name = symbol.replaceAll("[0-9]", "");
        int n = symbol.equals(name) ? 0 : Integer.parseInt(symbol.substring(name.length()));
        List<List<String>> all = new ArrayList<>();
        switch (name) {
            case "TEXT" -> add(all, "", "LINE REST1");
            case "REST" -> add(all, "", n < 10 ? "; LINE REST" + (n + 1) : "; nothing!");
            case "LINE" -> add(all, "draw #3 IFS");
            case "IFS" -> add(all, "", "if C0");
            case "C" -> add(all, "ALL" + n + " ORS" + n);
            case "ORS" -> add(all, "", "or ALL" + n + " ORS" + n);
            case "ALL" -> add(all, "ATOM" + n + " ANDS" + n);
            case "ANDS" -> add(all, "", "and ATOM" + n + " ANDS" + n);
            case "ATOM" -> {
                add(all, "broken", "SUM < SUM", "SUM > SUM");
                if (n < DEEPEST) {
                    add(all, "not ATOM" + (n + 1), "( C" + (n + 1) + " )");
                }
            }
            case "SUM" -> add(all, "PART PLUS");
            case "PLUS" -> add(all, "", "+ PART PLUS");
            case "PART" -> add(all, "#99", "level", "top", "farm");
            default -> throw new IllegalStateException(symbol);
        }
        return all;
    }

    private static void add(List<List<String>> all, String... ways) {
        for (String way : ways) {
            all.add(way.isEmpty() ? List.of() : List.of(way.split(" ")));
        }
    }

    /** What a right text tells. */
    static int tells(String text, int top, int farm, int level, boolean broken) {
        List<String> words = new ArrayList<>();
        for (Word word : words(text)) {
            words.add(switch (word.text()) {
                case "top" -> "" + top;
                case "farm" -> "" + farm;
                case "level" -> "" + level;
                case "broken" -> broken ? "true" : "false";
                default -> word.text();
            });
        }
        for (List<String> line : split(words, ";")) {
            if (!line.isEmpty() && (line.size() == 2 || holds(line.subList(3, line.size())))) {
                return Integer.parseInt(line.get(1));
            }
        }
        return 0;
    }

    private static boolean holds(List<String> words) {
        List<List<String>> parts = split(words, "or");
        if (parts.size() > 1) {
            return parts.stream().anyMatch(Texts::holds);
        }
        parts = split(words, "and");
        if (parts.size() > 1) {
            return parts.stream().allMatch(Texts::holds);
        }
        String first = words.get(0);
        if (first.equals("not")) {
            return !holds(words.subList(1, words.size()));
        }
        if (first.equals("(")) {
            return holds(words.subList(1, words.size() - 1));
        }
        if (words.size() == 1) {
            return first.equals("true");
        }
        String sign = words.contains("<") ? "<" : ">";
        List<List<String>> sums = split(words, sign);
        int difference = sum(sums.get(0)) - sum(sums.get(1));
        return sign.equals("<") ? difference < 0 : difference > 0;
    }

    private static int sum(List<String> words) {
        int sum = 0;
        for (List<String> part : split(words, "+")) {
            sum += Integer.parseInt(part.get(0));
        }
        return sum;
    }

    /** Parts at a sign that stands in no brackets. */
    private static List<List<String>> split(List<String> words, String sign) {
        List<List<String>> parts = new ArrayList<>();
        int deep = 0;
        int from = 0;
        for (int at = 0; at < words.size(); at++) {
            String word = words.get(at);
            deep += word.equals("(") ? 1 : word.equals(")") ? -1 : 0;
            if (deep == 0 && word.equals(sign)) {
                parts.add(words.subList(from, at));
                from = at + 1;
            }
        }
        parts.add(words.subList(from, words.size()));
        return parts;
    }
}
