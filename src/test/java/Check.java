import java.util.Objects;
import java.util.function.Consumer;
import java.util.function.ObjIntConsumer;
import java.util.function.Supplier;

/** What the tests have in common: a test compares, and ends with exit code 1 if an answer was wrong. */
final class Check {
    interface Call {
        void make();
    }

    interface CallWith {
        void make(int value);
    }

    /** No numbers of machines. */
    static final int[] NO_MACHINES = {-1, 6, Integer.MIN_VALUE, Integer.MAX_VALUE};

    private static int wrong = 0;
    private static int checked = 0;
    private static int sentences = 0;
    private static int checkedBefore = 0;
    private static String sentence = "";

    private Check() {
    }

    static void equal(String what, Object got, Object due) {
        checked++;
        if (!Objects.equals(got, due)) {
            wrong++;
            System.out.println(sentence + what + " answered " + got + ", due is " + due);
        }
    }

    /** The sentence of the document that the answers from here on are looked at for. */
    static void sentence(String words) {
        endSentence();
        sentence = "\"" + words + "\": ";
        sentences++;
    }

    private static void endSentence() {
        if (!sentence.isEmpty() && checked == checkedBefore) {
            wrong++;
            System.out.println(sentence + "no answer was looked at");
        }
        checkedBefore = checked;
        sentence = "";
    }

    static void throwing(String what, Class<? extends RuntimeException> due, Call call) {
        Class<?> got = null;
        try {
            call.make();
        } catch (RuntimeException e) {
            got = e.getClass();
        }
        equal(what + " throws", got, due);
    }

    static void throwingFor(String what, Class<? extends RuntimeException> due, CallWith call, int... values) {
        for (int value : values) {
            throwing(what + " " + value, due, () -> call.make(value));
        }
    }

    /** A call that throws, and leaves all that can be seen of the object as it was. */
    static void refused(String what, Class<? extends RuntimeException> due, Supplier<WriterDesk> made,
            Consumer<WriterDesk> call) {
        WriterDesk desk = made.get();
        String before = all(desk);
        String result = result(desk);
        equal(what + ": there is a result", result.isEmpty(), false);
        throwing(what, due, () -> call.accept(desk));
        equal(what + ": the result stays", result(desk), result);
        equal(what + ": all stays", all(desk), before);
    }

    static void refusedFor(String what, Class<? extends RuntimeException> due, Supplier<WriterDesk> made,
            ObjIntConsumer<WriterDesk> call, int... values) {
        for (int value : values) {
            refused(what + " " + value, due, made, desk -> call.accept(desk, value));
        }
    }

    /** What can be seen of an object without too many calls; an output that is not empty is the result then. */
    private static String all(WriterDesk desk) {
        StringBuilder text = new StringBuilder();
        text.append(desk.count(1)).append(' ').append(desk.count(2));
        text.append(desk.count(2) == 0 ? "" : made(desk));
        int toldMachine = 0;
        String toldWord = "";
        for (int m = 0; m < 6; m++) {
            text.append(' ').append(desk.useful(m));
            for (String word : new String[] {"", "0"}) {
                text.append(':').append(read(desk, m, word, 0)).append('/').append(result(desk));
                toldWord = desk.count(0) > 0 ? word : toldWord;
                toldMachine = desk.count(0) > 0 ? m : toldMachine;
            }
        }
        read(desk, toldMachine, toldWord, 0);
        return text.toString();
    }

    /** The result as digits, one for each letter or sign. */
    static String result(WriterDesk desk) {
        StringBuilder text = new StringBuilder();
        int length = desk.count(0);
        for (int i = 0; i < length; i++) {
            text.append(desk.sign(i));
        }
        return text.toString();
    }

    static void result(String what, WriterDesk desk, String due) {
        equal(what + ": the result", result(desk), due);
    }

    /** A written word as its three bits a sign, the first one lowest. */
    static int signs(String word) {
        int bits = 0;
        for (int i = 0; i < word.length(); i++) {
            bits |= (word.charAt(i) - '0') << 3 * i;
        }
        return bits;
    }

    /** A word to read as its two bits a letter, the first one lowest. */
    static int letters(String word) {
        int bits = 0;
        for (int i = 0; i < word.length(); i++) {
            bits |= (word.charAt(i) - '0') << 2 * i;
        }
        return bits;
    }

    static int edge(WriterDesk desk, int m, int from, int letter, int to, String word) {
        return desk.edge(m, from, letter, to, word.length(), signs(word));
    }

    static void last(WriterDesk desk, int m, int state, String word) {
        desk.last(m, state, word.length(), signs(word));
    }

    static void first(WriterDesk desk, int m, String word) {
        desk.first(m, word.length(), signs(word));
    }

    static int read(WriterDesk desk, int m, String word, int k) {
        return desk.read(m, word.length(), letters(word), k);
    }

    /** A machine told as "from letter to word" for each edge, and "state word" for each final word. */
    static WriterDesk tell(WriterDesk desk, int m, int states, String edges, String ends) {
        desk.machine(m, states);
        for (String e : edges.isEmpty() ? new String[0] : edges.split(" ")) {
            edge(desk, m, e.charAt(0) - '0', e.charAt(1) - '0', e.charAt(2) - '0', e.substring(3));
        }
        for (String end : ends.isEmpty() ? new String[0] : ends.split(" ")) {
            last(desk, m, end.charAt(0) - '0', end.substring(1));
        }
        return desk;
    }

    /** A new object whose machine 0 is told so. */
    static WriterDesk told(int states, String edges, String ends) {
        return tell(new WriterDesk(), 0, states, edges, ends);
    }

    static void reads(String what, WriterDesk desk, int m, String word, String... outputs) {
        equal(what + ": outputs of " + word, read(desk, m, word, -1), outputs.length);
        for (int k = 0; k < outputs.length; k++) {
            read(desk, m, word, k);
            equal(what + ": output " + k + " of " + word, result(desk), outputs[k]);
        }
    }

    /** The smallest machine as a text: its first word, then each state with its edges and final word. */
    static String made(WriterDesk desk) {
        StringBuilder text = new StringBuilder();
        desk.ends(WriterDesk.NONE);
        text.append(result(desk));
        int states = desk.count(2);
        for (int state = 0; state < states; state++) {
            text.append(madeState(desk, state));
        }
        return text.toString();
    }

    private static String madeState(WriterDesk desk, int state) {
        StringBuilder text = new StringBuilder("|");
        for (int letter = 0; letter < 3; letter++) {
            int to = desk.next(state, letter);
            text.append(to == WriterDesk.NONE ? "-" : to + ":" + result(desk)).append(' ');
        }
        boolean closing = desk.ends(state);
        return text.append(closing ? "." + result(desk) : "-").toString();
    }

    /** As made(), for machines with long words: an object for each state, as one is used for 512 calls only. */
    static String madeInParts(Supplier<WriterDesk> made) {
        WriterDesk desk = made.get();
        desk.ends(WriterDesk.NONE);
        StringBuilder text = new StringBuilder(result(desk));
        for (int state = 0; state < desk.count(2); state++) {
            text.append(madeState(made.get(), state));
        }
        return text.toString();
    }

    static void finish() {
        endSentence();
        String told = sentences == 0 ? "" : " for " + sentences + " sentences of the document";
        System.out.println(checked + " answers looked at" + told + ", " + wrong + " wrong");
        if (wrong != 0 || checked == 0) {
            System.exit(1);
        }
    }
}
