import java.util.function.LongSupplier;

/** What the tests share: texts in place of words, and answers that are compared with those that are due. */
final class Check {
    private final String about;
    private int asked = 0;
    private int wrong = 0;

    Check(String about) {
        this.about = about;
    }

    void same(String what, long got, long due) {
        asked++;
        if (got != due) {
            wrong++;
            System.out.println(about + ": " + what + " answered " + got + ", due is " + due);
        }
    }

    void same(String what, String got, String due) {
        asked++;
        if (!got.equals(due)) {
            wrong++;
            System.out.println(about + ": " + what + " answered " + got + ", due is " + due);
        }
    }

    void yes(String what, boolean got) {
        same(what, got ? 1 : 0, 1);
    }

    void no(String what, boolean got) {
        same(what, got ? 1 : 0, 0);
    }

    void fails(String what, Class<? extends RuntimeException> due, LongSupplier call) {
        String got = "nothing";
        try {
            call.getAsLong();
        } catch (RuntimeException e) {
            got = e.getClass().getName();
        }
        same(what + " throws", got, due.getName());
    }

    /** Asks a row of questions, what = from on. */
    void row(String what, java.util.function.IntToLongFunction call, int from, long... due) {
        for (int i = 0; i < due.length; i++) {
            same(what + " (" + (from + i) + ")", call.applyAsLong(from + i), due[i]);
        }
    }

    /** Whether a call says no to just those of these values that are not from .. to. */
    void only(String what, java.util.function.IntToLongFunction call, int from, int to) {
        int[] values = {Integer.MIN_VALUE, -1000, from - 2, from - 1, from, from + 1, to - 1, to, to + 1, to + 2,
            1000 + to, Integer.MAX_VALUE};
        for (int value : values) {
            boolean is = value >= from && value <= to;
            String said = said(() -> call.applyAsLong(value));
            boolean no = said.equals("-1") || said.equals("NoSuchElementException");
            same(what + " of " + value + " said " + said + ", which is a yes", no ? 0 : 1, is ? 1 : 0);
        }
    }

    /** The answer, or the name of the exception in its place. */
    static String said(LongSupplier call) {
        try {
            return Long.toString(call.getAsLong());
        } catch (RuntimeException e) {
            return e.getClass().getSimpleName();
        }
    }

    /** For answers that are true or false: a no is NONE. */
    static long yesOrNone(boolean is) {
        return is ? 1 : RootHouse.NONE;
    }

    void end() {
        System.out.println(about + ": " + asked + " answers, " + wrong + " wrong");
        if (wrong != 0) {
            System.exit(1);
        }
    }

    static void type(RootHouse house, String text) {
        for (int i = 0; i < text.length(); i += 8) {
            String piece = text.substring(i, Math.min(text.length(), i + 8));
            long word = 0;
            for (char c : piece.toCharArray()) {
                word = word << 8 | c;
            }
            if (!house.type(word, piece.length())) {
                throw new IllegalArgumentException("can't be typed: " + text);
            }
        }
    }

    /** Reads a TEXT: its number, or the name of the exception, with the FAULT behind it. */
    static String read(RootHouse house, String text) {
        type(house, text);
        return said(house::circuit) + " " + house.fault(0) + " " + house.fault(1);
    }

    /** Reads a TEXT into a new house. */
    static String read(String text) {
        return read(new RootHouse(), text);
    }

    static int circuit(RootHouse house, String text) {
        type(house, text);
        return house.circuit();
    }

    static String written(RootHouse house, int c) {
        StringBuilder text = new StringBuilder();
        int next = house.written(c, 0);
        while (next != RootHouse.NONE) {
            text.append((char) next);
            next = house.written(c, text.length());
        }
        return text.toString();
    }

    static String form(RootHouse house, int c) {
        int count = house.form(c);
        StringBuilder text = new StringBuilder();
        for (int k = 0; k < count; k++) {
            text.append((char) house.letter(k));
        }
        return text.toString();
    }
}
