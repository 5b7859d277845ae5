import java.util.List;
import java.util.TreeMap;

/** Many machines, made by a fixed rule, whose answers are compared with those of the naive ones. */
public final class AgainstNaiveTest {
    private static final TreeMap<String, Integer> SEEN = new TreeMap<>();
    /** So many ways of reading are looked at for a word that should not be there: there may be words without end. */
    private static final int MOST_WAYS = 4000;
    /** So many for a word that should be there. */
    private static final int MANY_WAYS = 200000;
    private static long seed = 12345;

    private AgainstNaiveTest() {
    }

    private static int some(int n) {
        seed = seed * 6364136223846793005L + 1442695040888963407L;
        return (int) ((seed >>> 33) % n);
    }

    private static void saw(String what) {
        SEEN.merge(what, 1, Integer::sum);
    }

    private static String someWord(int longest, int signs) {
        StringBuilder word = new StringBuilder();
        for (int n = some(longest + 1); n > 0; n--) {
            word.append(some(signs));
        }
        return word.toString();
    }

    /** Few signs and few edges, so that many are functions. */
    private static Naive someMachine() {
        Naive machine = new Naive(1 + some(6));
        int signs = 1 + some(3);
        int longest = some(4);
        int letters = 1 + some(3);
        int edges = some(some(3) == 0 ? 24 : 2 * machine.states + 2);
        for (int i = 0; i < edges; i++) {
            machine.edges.add(new Naive.Edge(some(machine.states), some(letters), some(machine.states),
                    someWord(longest, signs)));
        }
        addEnds(machine, longest, signs);
        return machine;
    }

    private static void addEnds(Naive machine, int longest, int signs) {
        for (int q = 0; q < machine.states; q++) {
            if (some(3) == 0) {
                machine.closing[q] = someWord(longest, signs);
            }
        }
        machine.opening = some(3) == 0 ? someWord(longest, signs) : "";
    }

    /** All signs alike, and as many for each letter from wherever it is read: many ways, but a function. */
    private static Naive someGuessing() {
        Naive machine = new Naive(2 + some(5));
        int[] ahead = new int[machine.states];
        for (int q = 1; q < machine.states; q++) {
            ahead[q] = some(2);
        }
        int edges = 3 + some(20);
        for (int i = 0; i < edges; i++) {
            int from = some(machine.states);
            int to = some(machine.states);
            int letter = some(3);
            int n = letter % 2 + 1 + ahead[to] - ahead[from] - (some(40) == 0 ? 1 : 0);
            machine.edges.add(new Naive.Edge(from, letter, to, "000".substring(0, Math.min(3, Math.max(0, n)))));
        }
        for (int q = 0; q < machine.states; q++) {
            if (some(3) == 0) {
                machine.closing[q] = "000".substring(0, 1 + (some(8) == 0 ? 1 : 0) - ahead[q]);
            }
        }
        return machine;
    }

    /** No two edges for one letter: all are functions. */
    private static Naive someKnowing() {
        Naive machine = new Naive(1 + some(6));
        for (int q = 0; q < machine.states; q++) {
            for (int letter = 0; letter < 3; letter++) {
                if (some(3) > 0) {
                    machine.edges.add(new Naive.Edge(q, letter, some(machine.states), someWord(3, 2)));
                }
            }
        }
        addEnds(machine, 3, 2);
        return machine;
    }

    /** A machine that reads backwards what one that knows reads: it guesses, and is often unsteady. */
    private static Naive someTurned() {
        Naive knowing = someKnowing();
        Naive machine = new Naive(knowing.states);
        for (Naive.Edge e : knowing.edges) {
            machine.edges.add(new Naive.Edge(e.to(), e.letter(), e.from(), e.word()));
        }
        machine.closing[some(machine.states)] = someWord(2, 2);
        return machine;
    }

    /** A circle with a shorter one in it, both read by one letter: the first word that both can read is long. */
    private static Naive someCircling() {
        Naive machine = new Naive(3 + some(4));
        for (int q = 0; q < machine.states; q++) {
            machine.edges.add(new Naive.Edge(q, 0, (q + 1) % machine.states, someWord(1, 1)));
        }
        int from = some(machine.states);
        int skipped = 1 + some(2);
        machine.edges.add(new Naive.Edge(from, 0, (from + 1 + skipped) % machine.states, someWord(1, 1)));
        machine.closing[some(machine.states)] = someWord(3, 1);
        return machine;
    }

    private static Naive someOfAKind() {
        switch (some(5)) {
            case 0:
                return someGuessing();
            case 1:
                return someKnowing();
            case 2:
                return someTurned();
            case 3:
                return someCircling();
            default:
                return someMachine();
        }
    }

    /** Mostly by letters for which the last state on some way has an edge. */
    private static String someWordToRead(Naive machine) {
        StringBuilder word = new StringBuilder();
        int state = 0;
        for (int n = some(11); n > 0; n--) {
            int letter = some(3);
            for (int i = 0; i < 9 && !machine.edges.isEmpty(); i++) {
                Naive.Edge e = machine.edges.get(some(machine.edges.size()));
                if (e.from() == state) {
                    letter = e.letter();
                    state = e.to();
                    break;
                }
            }
            word.append(letter);
        }
        return word.toString();
    }

    /** Most of them with some useful states. */
    private static Naive someUseful() {
        Naive machine = someOfAKind();
        for (int i = 0; i < 5 && machine.useful() < 2; i++) {
            machine = someOfAKind();
        }
        return machine;
    }

    private static void compareReading(WriterDesk desk, Naive machine, String name) {
        for (int i = 0; i < 3; i++) {
            String word = someWordToRead(machine);
            List<String> due = Naive.read(machine, word);
            if (due == null) {
                saw("read: too many");
                Check.throwing(name + "read " + word, UnsupportedOperationException.class,
                        () -> Check.read(desk, 0, word, 0));
            } else {
                int k = some(due.size() + 1);
                Check.equal(name + "read " + word, Check.read(desk, 0, word, k), due.size());
                Check.result(name + "read " + word + " " + k, desk, k < due.size() ? due.get(k) : "");
                saw("read: " + (due.isEmpty() ? "none" : due.size() == 1 ? "one" : "many"));
            }
        }
    }

    private static boolean compareFunction(WriterDesk desk, Naive machine, String name) {
        boolean function = desk.isFunction(0);
        String word = Check.result(desk);
        compareApart("isFunction", name, function, word,
                Naive.firstApart(machine, machine, function ? MOST_WAYS : MANY_WAYS));
        return function;
    }

    /** Whether it is so, and the first word that tells why not. */
    private static void compareApart(String call, String name, boolean got, String word, String due) {
        boolean none = due == null || due.equals(Naive.NOT_KNOWN);
        saw(call + ": " + (none ? "true" : due.length() < 12 ? "false" : "false, a long word")
                + (none && due != null ? ", as far as looked" : ""));
        Check.equal(name + call, got, none);
        Check.equal(name + call + "'s word", word, none ? "" : due);
    }

    private static void compareSmallest(WriterDesk desk, Naive machine, String name) {
        String steadiness = Naive.steadiness(machine);
        saw("isSteady: " + steadiness);
        if (steadiness.equals("too many")) {
            Check.throwing(name + "isSteady", UnsupportedOperationException.class, () -> desk.isSteady(0));
            Check.throwing(name + "smallest", UnsupportedOperationException.class, () -> desk.smallest(0));
            return;
        }
        Check.equal(name + "isSteady", desk.isSteady(0), steadiness.equals("steady"));
        if (steadiness.equals("unsteady")) {
            Check.throwing(name + "smallest", IllegalStateException.class, () -> desk.smallest(0));
            return;
        }
        String due = Naive.smallest(machine, 4000);
        if (due == null) {
            saw("smallest: not known");
        } else if (Naive.statesOf(due) > 40) {
            saw("smallest: too many");
            Check.throwing(name + "smallest", UnsupportedOperationException.class, () -> desk.smallest(0));
        } else {
            saw("smallest: made" + (Naive.statesOf(due) > machine.states ? ", grown" : ""));
            Check.equal(name + "smallest", desk.smallest(0), Naive.statesOf(due));
            Check.equal(name + "the smallest machine", Check.made(desk), due);
        }
    }

    /** A machine with one thing changed. */
    private static Naive changed(Naive machine) {
        Naive other = new Naive(machine.states);
        other.edges.addAll(machine.edges);
        System.arraycopy(machine.closing, 0, other.closing, 0, machine.states);
        other.opening = machine.opening;
        int what = some(4);
        if (what == 0 && !other.edges.isEmpty()) {
            other.edges.remove(some(other.edges.size()));
        } else if (what == 1 && !other.edges.isEmpty()) {
            Naive.Edge e = other.edges.remove(some(other.edges.size()));
            other.edges.add(new Naive.Edge(e.from(), e.letter(), some(other.states), e.word()));
        } else if (what == 2) {
            int q = some(other.states);
            other.closing[q] = other.closing[q] == null ? "0" : null;
        }
        return other;
    }

    private static void compareSame(WriterDesk desk, Naive one, String name) {
        Naive two = changed(one);
        two.tell(desk, 1);
        boolean function = desk.isFunction(1);
        if (!function) {
            Check.throwing(name + "isSame", IllegalStateException.class, () -> desk.isSame(0, 1));
            Check.throwing(name + "isSame", IllegalStateException.class, () -> desk.isSame(1, 0));
            return;
        }
        boolean same = desk.isSame(0, 1);
        String word = Check.result(desk);
        compareApart("isSame", name, same, word, Naive.firstApart(one, two, same ? MOST_WAYS : MANY_WAYS));
        Check.equal(name + "isSame turned", desk.isSame(1, 0), same);
        Check.result(name + "isSame turned", desk, word);
    }

    public static void main(String[] args) {
        int rounds = args.length > 0 ? Integer.parseInt(args[0]) : 2000;
        seed = args.length > 1 ? Long.parseLong(args[1]) : seed;
        // One object for all rounds, though only 512 calls are promised: rows used again must hold nothing from before.
        WriterDesk desk = new WriterDesk();
        for (int round = 0; round < rounds; round++) {
            Naive machine = someUseful();
            String name = "round " + round + ": ";
            machine.tell(desk, 0);
            Check.equal(name + "useful", desk.useful(0), machine.useful());
            Check.equal(name + "count(1)", desk.count(1) >= machine.edges.size(), true);
            compareReading(desk, machine, name);
            if (compareFunction(desk, machine, name)) {
                compareSmallest(desk, machine, name);
                compareSame(desk, machine, name);
            } else {
                Check.throwing(name + "isSteady", IllegalStateException.class, () -> desk.isSteady(0));
                Check.throwing(name + "smallest", IllegalStateException.class, () -> desk.smallest(0));
            }
        }
        System.out.println(SEEN);
        Check.finish();
    }
}
