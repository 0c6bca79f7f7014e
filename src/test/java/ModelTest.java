import java.lang.reflect.InvocationTargetException;
import java.lang.reflect.Method;
import java.nio.charset.StandardCharsets;
import java.util.ArrayList;
import java.util.Arrays;
import java.util.Comparator;
import java.util.List;
import java.util.Random;

/**
 * Long runs of calls, the same for WellPumps and for the Model: every answer and every exception must be the same.
 * The runs come of fixed seeds; how many, and the first seed, may be told: java ModelTest 1000 77.
 */
public final class ModelTest {
    private static final Method[] CALLS = calls();
    private static final int[] ODD = {Integer.MIN_VALUE, -7, -2, -1, 4, 5, 6, 7, 8, 9, 10, 12, 13, 20, 21, 99, 100,
        101, 400, 1000, Integer.MAX_VALUE};

    private final WellPumps pumps = new WellPumps();
    private final Model model = new Model();
    private final Random random;
    private final List<String> told = new ArrayList<>();
    private final int size;
    private boolean isWrong = false;

    private ModelTest(long seed) {
        random = new Random(seed);
        size = 1 + random.nextInt(7);
    }

    public static void main(String[] args) {
        int games = args.length > 0 ? Integer.parseInt(args[0]) : 250;
        int first = args.length > 1 ? Integer.parseInt(args[1]) : 0;
        for (int game = 0; game < games; game++) {
            new ModelTest(first + game).play();
        }
        Check.end("ModelTest");
    }

    private static Method[] calls() {
        List<Method> calls = new ArrayList<>();
        for (Method call : WellPumps.class.getDeclaredMethods()) {
            if (java.lang.reflect.Modifier.isPublic(call.getModifiers())) {
                calls.add(call);
            }
        }
        calls.sort(Comparator.comparing(Method::getName));
        return calls.toArray(new Method[0]);
    }

    private void play() {
        if (random.nextInt(6) == 0) {
            buildGreatest();
        } else {
            build();
        }
        int asked = 40 + random.nextInt(60);
        for (int turn = 0; turn < asked && !isWrong; turn++) {
            Method call = CALLS[random.nextInt(CALLS.length)];
            if (call.getName().equals("nearest") && random.nextInt(3) > 0) {
                continue;
            }
            if (call.getName().equals("draw") || call.getName().equals("row")) {
                fill(call.getName());
            }
            ask(call, argumentsOf(call));
        }
    }

    private void build() {
        ask("well", size, random.nextInt(3) == 0 ? -1 : random.nextInt(size + 1));
        ask("rain", random.nextInt(3), random.nextInt(2), random.nextInt(2), random.nextInt(2));
        ask("years", 1 + random.nextInt(3), 2 + random.nextInt(4));
        int farms = random.nextInt(12) == 0 ? 0 : 1 + random.nextInt(3);
        for (int farm = 0; farm < farms; farm++) {
            int one = random.nextInt(40);
            ask("farm", one, one + random.nextInt(30), random.nextInt(100), random.nextInt(6));
        }
        int draws = random.nextInt(5);
        for (int draw = 0; draw < draws; draw++) {
            fill("draw");
            ask("draw");
        }
        for (int farm = 0; farm < farms; farm++) {
            ask("by", farm, random.nextInt(draws + 1) - 1);
        }
        int rules = random.nextInt(4);
        for (int rule = 0; rule < rules; rule++) {
            ask("rule", random.nextInt(8), random.nextInt(4), random.nextInt(4), random.nextInt(100), random.nextInt(5));
        }
        ask("force", random.nextInt(rules + 1));
    }

    /** Numbers that make the greatest fractions, so that they are seen to fit. */
    private void buildGreatest() {
        ask("well", 7, random.nextInt(9) - 1);
        ask("rain", random.nextInt(3), 1, random.nextInt(2), 0);
        ask("years", 4, 5);
        for (int farm = 0; farm < 3; farm++) {
            ask("farm", 98 + random.nextInt(2), 97 + random.nextInt(3), 99, random.nextInt(2) * 9);
            fill("draw");
            ask("draw");
            ask("by", farm, random.nextInt(farm + 2) - 1);
        }
        ask("rule", 9, random.nextInt(2), 0, 99, 3 + random.nextInt(2));
        ask("force", random.nextInt(2));
    }

    // ---- what is asked ----

    private Object[] argumentsOf(Method call) {
        Class<?>[] types = call.getParameterTypes();
        Object[] arguments = new Object[types.length];
        int odd = types.length > 0 && random.nextInt(7) == 0 ? random.nextInt(types.length) : -1;
        for (int at = 0; at < types.length; at++) {
            if (types[at] == boolean.class) {
                arguments[at] = random.nextBoolean();
            } else if (at == odd) {
                arguments[at] = ODD[random.nextInt(ODD.length)];
            } else {
                arguments[at] = likely(call.getName(), at);
            }
        }
        return arguments;
    }

    private int likely(String name, int at) {
        switch (name) {
            case "feed": return random.nextInt();
            case "end": return random.nextInt(401);
            case "well": return at == 0 ? 1 + random.nextInt(7) : random.nextInt(9) - 1;
            case "rain": return random.nextInt(3);
            case "years": return at == 0 ? 1 + random.nextInt(4) : 2 + random.nextInt(4);
            case "farm": return at < 3 ? random.nextInt(100) : random.nextInt(10);
            case "rule": return random.nextInt(new int[] {10, 8, 4, 100, 5}[at]);
            case "force": return random.nextInt(5);
            case "by": return at == 0 ? random.nextInt(3) : random.nextInt(6) - 1;
            case "broken": return random.nextInt(new int[] {12, 3, 4}[at]);
            case "beside": return random.nextInt(new int[] {7, 4, 4}[at]) + (at == 0 ? 1 : 0);
            case "pacts": return random.nextInt(6);
            case "count": return random.nextInt(10);
            case "dry": return random.nextInt(at == 0 ? size + 1 : 21);
            case "run": return new int[] {random.nextInt(size + 1), random.nextInt(30), random.nextInt(), 0,
                random.nextInt(8)}[at];
            case "part": return random.nextInt(new int[] {3, size + 1, 13}[at]);
            case "most": return random.nextInt(at == 0 ? size + 1 : 13);
            case "nearest": return at == 0 ? random.nextInt(size + 1) : 1 + random.nextInt(8);
            case "next", "owned", "lost", "lasts": return random.nextInt(size + 1);
            default: return at == 0 ? random.nextInt(3) : at == 1 ? random.nextInt(size + 1) : 1 + random.nextInt(8);
        }
    }

    private void ask(String name, Object... arguments) {
        for (Method call : CALLS) {
            if (call.getName().equals(name)) {
                ask(call, arguments);
            }
        }
    }

    private void ask(Method call, Object[] arguments) {
        String text = call.getName() + Arrays.toString(arguments);
        told.add(text);
        String got = answer(pumps, call, arguments);
        String want = answer(model, call, arguments);
        Check.due(text, got, want);
        if (!got.equals(want)) {
            isWrong = true;
            System.out.println("    behind " + told);
        }
    }

    private static String answer(Object asked, Method call, Object[] arguments) {
        try {
            Method own = asked.getClass().getMethod(call.getName(), call.getParameterTypes());
            own.setAccessible(true);
            return String.valueOf(own.invoke(asked, arguments));
        } catch (InvocationTargetException e) {
            return "throws." + e.getCause().getClass().getSimpleName();
        } catch (ReflectiveOperationException e) {
            throw new IllegalStateException(e);
        }
    }

    // ---- texts and rows ----

    private void fill(String call) {
        byte[] bytes;
        if (call.equals("row")) {
            bytes = new byte[random.nextInt(40)];
            for (int at = 0; at < bytes.length; at++) {
                bytes[at] = (byte) (random.nextInt(200) == 0 ? random.nextInt() : random.nextInt(4));
            }
        } else {
            String text = text();
            for (int times = random.nextInt(4) - 2; times > 0; times--) {
                text = spoiled(text);
            }
            bytes = text.getBytes(StandardCharsets.ISO_8859_1);
        }
        ask("end", 0);
        for (int at = 0; at < bytes.length; at += 20) {
            ask("feed", Check.word(bytes, at), Check.word(bytes, at + 4), Check.word(bytes, at + 8),
                    Check.word(bytes, at + 12), Check.word(bytes, at + 16));
        }
        ask("end", Math.min(bytes.length, 400));
        told.add("'" + new String(bytes, StandardCharsets.ISO_8859_1) + "'");
    }

    private String text() {
        int lines = random.nextInt(12) == 0 ? random.nextInt(13) : random.nextInt(5);
        StringBuilder text = new StringBuilder();
        for (int line = 0; line < lines; line++) {
            text.append(line > 0 ? ";" + blank() : blank()).append("draw").append(blank())
                    .append(random.nextInt(random.nextInt(20) == 0 ? 6 : 4)).append(blank());
            if (random.nextInt(5) > 0) {
                text.append("if").append(gap()).append(condition(0));
            }
        }
        return text.append(blank()).toString();
    }

    private String blank() {
        return " ".repeat(random.nextInt(8) == 0 ? random.nextInt(3) : random.nextInt(2));
    }

    private String gap() {
        return " ".repeat(1 + random.nextInt(10) / 9);
    }

    private String condition(int depth) {
        StringBuilder text = new StringBuilder(atom(depth));
        while (random.nextInt(3) == 0) {
            text.append(gap()).append(random.nextBoolean() ? "or" : "and").append(gap()).append(atom(depth));
        }
        return text.toString();
    }

    private String atom(int depth) {
        int kind = random.nextInt(depth == 0 ? 8 : 9 - Math.min(depth, 3));
        if (kind < 2) {
            return "broken" + blank();
        }
        if (kind < 4 && depth < 8) {
            return kind == 2 ? "not" + gap() + atom(depth + 1) : "(" + blank() + condition(depth + 1) + blank() + ")";
        }
        return sum() + blank() + (random.nextBoolean() ? "<" : ">") + blank() + sum() + blank();
    }

    private String sum() {
        StringBuilder text = new StringBuilder(sumPart());
        while (random.nextInt(3) == 0) {
            text.append(blank()).append('+').append(blank()).append(sumPart());
        }
        return text.toString();
    }

    private String sumPart() {
        String[] facts = {"level", "level", "top", "farm"};
        int kind = random.nextInt(8);
        return kind < 4 ? facts[kind] : "" + random.nextInt(kind == 7 ? 12 : 5);
    }

    private String spoiled(String text) {
        String[] bits = {" ", "(", ")", "not ", "not", "+", "<", ">", ";", "draw", "if ", "or ", "and", "broken", "level",
            "top ", "farm", "7", "0", "123", "x", "\u00e4", "A", "\n", "\0", "=", "if", "draw 1"};
        int at = random.nextInt(text.length() + 1);
        int to = Math.min(text.length(), at + random.nextInt(4));
        switch (random.nextInt(4)) {
            case 0: return text.substring(0, at);
            case 1: return text.substring(0, at) + text.substring(to);
            case 2: return text.substring(0, at) + bits[random.nextInt(bits.length)] + text.substring(to);
            default: return text.substring(0, at) + bits[random.nextInt(bits.length)] + text.substring(at);
        }
    }
}
