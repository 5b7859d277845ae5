import java.util.Objects;

/** What the tests have in common: a test compares, and ends with exit code 1 if an answer was wrong. */
final class Check {
    interface Call {
        void make();
    }

    private static int wrong = 0;
    private static int checked = 0;

    private Check() {
    }

    static void equal(String what, Object got, Object due) {
        checked++;
        if (!Objects.equals(got, due)) {
            wrong++;
            System.out.println(what + " answered " + got + ", due is " + due);
        }
    }

    static void throwing(String what, Class<? extends RuntimeException> due, Call call) {
        Class<?> got = null;
        try {
            call.make();
        } catch (RuntimeException e) {
            got = e.getClass();
        }
        equal(what + " throws", got, due);
    }

    /** The result as digits, one for each letter or sign. */
    static String result(WriterDesk desk) {
        StringBuilder text = new StringBuilder();
        int length = desk.count(0);
        for (int i = 0; i < length; i++) {
            text.append(desk.sign(i));
        }
        return text.toString();
    }

    static void result(String what, WriterDesk desk, String due) {
        equal(what + ": the result", result(desk), due);
    }

    /** A written word as its three bits a sign, the first one lowest. */
    static int signs(String word) {
        int bits = 0;
        for (int i = 0; i < word.length(); i++) {
            bits |= (word.charAt(i) - '0') << 3 * i;
        }
        return bits;
    }

    /** A word to read as its two bits a letter, the first one lowest. */
    static int letters(String word) {
        int bits = 0;
        for (int i = 0; i < word.length(); i++) {
            bits |= (word.charAt(i) - '0') << 2 * i;
        }
        return bits;
    }

    static int edge(WriterDesk desk, int m, int from, int letter, int to, String word) {
        return desk.edge(m, from, letter, to, word.length(), signs(word));
    }

    static void last(WriterDesk desk, int m, int state, String word) {
        desk.last(m, state, word.length(), signs(word));
    }

    static void first(WriterDesk desk, int m, String word) {
        desk.first(m, word.length(), signs(word));
    }

    static int read(WriterDesk desk, int m, String word, int k) {
        return desk.read(m, word.length(), letters(word), k);
    }

    /** The smallest machine as a text: its first word, then each state with its edges and final word. */
    static String made(WriterDesk desk) {
        StringBuilder text = new StringBuilder();
        desk.ends(WriterDesk.NONE);
        text.append(result(desk));
        int states = desk.count(2);
        for (int state = 0; state < states; state++) {
            text.append('|');
            for (int letter = 0; letter < 3; letter++) {
                int to = desk.next(state, letter);
                text.append(to == WriterDesk.NONE ? "-" : to + ":" + result(desk)).append(' ');
            }
            boolean closing = desk.ends(state);
            text.append(closing ? "." + result(desk) : "-");
        }
        return text.toString();
    }

    static void finish() {
        System.out.println(checked + " answers looked at, " + wrong + " wrong");
        if (wrong != 0 || checked == 0) {
            System.exit(1);
        }
    }
}
