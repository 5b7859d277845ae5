/** The boundary cases of promise 2, machine. */
public final class Boundary02Test {
    private Boundary02Test() {
    }

    public static void main(String[] args) {
        soManyStates();
        noEdges();
        noFinalWords();
        emptyFirstWord();
        otherNumbersOfStates();
        Check.finish();
    }

    /** Six states one behind the other, with final words and a first word, and as many edges as there can be. */
    private static WriterDesk full() {
        WriterDesk desk = Check.told(6, "0011 1122 2233 3044 4155", "01 12 23 34 45 56");
        Check.first(desk, 0, "777");
        for (int e = 5; e < 24; e++) {
            desk.edge(0, 5, 2, 5, 0, 0);
        }
        Check.tell(desk, 1, 1, "0006", "05");
        return desk;
    }

    private static void soManyStates() {
        Check.sentence("A machine has so many states (1 .. 6)");
        for (int before = 1; before <= 6; before += 5) {
            for (int states = 1; states <= 6; states++) {
                WriterDesk desk = new WriterDesk();
                desk.machine(3, before);
                desk.machine(3, states);
                desk.last(3, states - 1, 0, 0);
                desk.edge(3, 0, 0, states - 1, 0, 0);
                Check.equal("state " + (states - 1) + " of " + states, desk.useful(3), states == 1 ? 1 : 2);
                Check.throwingFor("state of " + states, IllegalArgumentException.class, q -> desk.last(3, q, 0, 0),
                        -1, states);
            }
        }
    }

    private static void noEdges() {
        Check.sentence("A machine has [..] no edges");
        WriterDesk desk = full();
        Check.equal("before", desk.count(1), 25);
        desk.machine(0, 6);
        Check.equal("those of the other one are left", desk.count(1), 1);
        for (int q = 0; q < 6; q++) {
            desk.last(0, q, 0, 0);
        }
        Check.equal("no way to another state", desk.useful(0), 1);
        for (int e = 0; e < 24; e++) {
            Check.equal("a new edge", desk.edge(0, 0, 0, 0, 0, 0), e);
        }
        Check.throwing("full once more", UnsupportedOperationException.class, () -> desk.edge(0, 0, 0, 0, 0, 0));
    }

    private static void noFinalWords() {
        Check.sentence("A machine has [..] no final words");
        WriterDesk desk = full();
        Check.equal("before", desk.useful(0), 6);
        desk.machine(0, 6);
        for (int q = 1; q < 6; q++) {
            desk.edge(0, q - 1, 0, q, 0, 0);
        }
        Check.equal("none", desk.useful(0), 0);
        desk.last(0, 5, 0, 0);
        Check.reads("one", desk, 0, "00000", "");
        Check.reads("one", desk, 0, "0000");
        Check.reads("the other machine's", desk, 1, "", "5");
    }

    private static void emptyFirstWord() {
        Check.sentence("A machine has [..] an empty first word");
        WriterDesk desk = full();
        Check.reads("before", desk, 0, "", "7771");
        desk.machine(0, 1);
        desk.last(0, 0, 1, 1);
        Check.reads("behind", desk, 0, "", "1");
    }

    private static void otherNumbersOfStates() {
        Check.sentence("IllegalArgumentException, when states are none of these.");
        Check.refusedFor("states", IllegalArgumentException.class, Boundary02Test::full,
                (desk, states) -> desk.machine(0, states), 0, 7, -1, 8, Integer.MIN_VALUE, Integer.MAX_VALUE);
        WriterDesk desk = full();
        desk.machine(0, 1);
        desk.machine(5, 6);
        Check.equal("1 and 6 are some of these", desk.count(1), 1);
    }
}
