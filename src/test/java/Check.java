import java.util.function.LongSupplier;

/** What the tests share: texts in place of words, and answers that are compared with those that are due. */
final class Check {
    private final String about;
    private int asked = 0;
    private int wrong = 0;

    Check(String about) {
        this.about = about;
    }

    void same(String what, long got, long due) {
        asked++;
        if (got != due) {
            wrong++;
            System.out.println(about + ": " + what + " answered " + got + ", due is " + due);
        }
    }

    void same(String what, String got, String due) {
        asked++;
        if (!got.equals(due)) {
            wrong++;
            System.out.println(about + ": " + what + " answered " + got + ", due is " + due);
        }
    }

    void yes(String what, boolean got) {
        same(what, got ? 1 : 0, 1);
    }

    void no(String what, boolean got) {
        same(what, got ? 1 : 0, 0);
    }

    void fails(String what, Class<? extends RuntimeException> due, LongSupplier call) {
        String got = "nothing";
        try {
            call.getAsLong();
        } catch (RuntimeException e) {
            got = e.getClass().getName();
        }
        same(what + " throws", got, due.getName());
    }

    /** Asks a row of questions, what = from on. */
    void row(String what, java.util.function.IntToLongFunction call, int from, long... due) {
        for (int i = 0; i < due.length; i++) {
            same(what + " (" + (from + i) + ")", call.applyAsLong(from + i), due[i]);
        }
    }

    void end() {
        System.out.println(about + ": " + asked + " answers, " + wrong + " wrong");
        if (wrong != 0) {
            System.exit(1);
        }
    }

    static void type(RootHouse house, String text) {
        for (int i = 0; i < text.length(); i += 8) {
            String piece = text.substring(i, Math.min(text.length(), i + 8));
            long word = 0;
            for (char c : piece.toCharArray()) {
                word = word << 8 | c;
            }
            if (!house.type(word, piece.length())) {
                throw new IllegalArgumentException("can't be typed: " + text);
            }
        }
    }

    static int circuit(RootHouse house, String text) {
        type(house, text);
        return house.circuit();
    }

    static String written(RootHouse house, int c) {
        StringBuilder text = new StringBuilder();
        for (int k = 0; house.written(c, k) != RootHouse.NONE; k++) {
            text.append((char) house.written(c, k));
        }
        return text.toString();
    }

    static String form(RootHouse house, int c) {
        int count = house.form(c);
        StringBuilder text = new StringBuilder();
        for (int k = 0; k < count; k++) {
            text.append((char) house.letter(k));
        }
        return text.toString();
    }
}
