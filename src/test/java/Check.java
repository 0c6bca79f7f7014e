import java.nio.charset.StandardCharsets;

/** What the tests share: answers that are due, exceptions that are due, and texts that go on the tape. */
final class Check {
    /** A call that is expected to throw. */
    interface Call {
        void make();
    }

    private static int wrong = 0;
    private static int asked = 0;

    private Check() {
    }

    static void due(String call, long got, long want) {
        asked++;
        if (got != want) {
            wrong++;
            System.out.println(call + " answered " + got + ", due is " + want);
        }
    }

    static void due(String call, boolean got, boolean want) {
        due(call, got ? 1 : 0, want ? 1 : 0);
    }

    static void due(String call, String got, String want) {
        asked++;
        if (!got.equals(want)) {
            wrong++;
            System.out.println(call + " answered " + got + ", due is " + want);
        }
    }

    static void index(String call, Call made) {
        thrown(call, made, IndexOutOfBoundsException.class);
    }

    static void argument(String call, Call made) {
        thrown(call, made, IllegalArgumentException.class);
    }

    static void unsupported(String call, Call made) {
        thrown(call, made, UnsupportedOperationException.class);
    }

    static void thrown(String call, Call made, Class<? extends RuntimeException> due) {
        String got = "nothing";
        try {
            made.make();
        } catch (RuntimeException e) {
            got = e.getClass().getName();
        }
        due(call + " throws", got, due.getName());
    }

    /** Puts the bytes behind the tape, whose length is told, and cuts off what fills up the last twenty. */
    static void feed(WellPumps pumps, byte[] bytes) {
        int before = pumps.feed(0, 0, 0, 0, 0) - 20;
        pumps.end(before);
        for (int at = 0; at < bytes.length; at += 20) {
            pumps.feed(word(bytes, at), word(bytes, at + 4), word(bytes, at + 8), word(bytes, at + 12),
                    word(bytes, at + 16));
        }
        pumps.end(before + bytes.length);
    }

    static void feed(WellPumps pumps, String text) {
        feed(pumps, text.getBytes(StandardCharsets.ISO_8859_1));
    }

    static int word(byte[] bytes, int at) {
        int word = 0;
        for (int index = at; index < at + 4; index++) {
            word = word << 8 | (index < bytes.length ? bytes[index] & 0xff : 0);
        }
        return word;
    }

    static int draw(WellPumps pumps, String text) {
        feed(pumps, text);
        return pumps.draw();
    }

    /** The first wrong byte of a text, and that draw() throws exactly if there is one. */
    static int fault(WellPumps pumps, String text) {
        feed(pumps, text);
        boolean threw = false;
        try {
            pumps.draw();
        } catch (IllegalArgumentException e) {
            threw = true;
        }
        due("draw of '" + text + "' throws", threw, pumps.fault() != WellPumps.NONE);
        return pumps.fault();
    }

    static void end(String test) {
        System.out.println(test + ": " + asked + " asked, " + wrong + " wrong");
        if (wrong > 0) {
            System.exit(1);
        }
    }
}
