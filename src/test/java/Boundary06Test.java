/** The boundary cases of promise 6, useful. */
public final class Boundary06Test {
    private Boundary06Test() {
    }

    public static void main(String[] args) {
        none();
        all();
        isCountedAnew();
        Check.finish();
    }

    private static void none() {
        Check.sentence("How many states are useful. (none)");
        WriterDesk desk = new WriterDesk();
        for (int states = 1; states <= 6; states++) {
            desk.machine(0, states);
            Check.equal("no edge, no final word, " + states + " states", desk.useful(0), 0);
            for (int q = 1; q < states; q++) {
                desk.last(0, q, 0, 0);
                desk.edge(0, q, 0, 0, 0, 0);
            }
            Check.equal("no way from state 0, " + states + " states", desk.useful(0), 0);
        }
    }

    private static void all() {
        Check.sentence("How many states are useful. (all)");
        WriterDesk desk = new WriterDesk();
        for (int states = 1; states <= 6; states++) {
            desk.machine(0, states);
            for (int q = 0; q < states; q++) {
                desk.edge(0, q, 2, (q + 1) % states, 0, 0);
            }
            Check.equal("no final word, " + states + " states", desk.useful(0), 0);
            desk.last(0, states / 2, 3, 511);
            Check.equal("a round of " + states + " states", desk.useful(0), states);
        }
    }

    private static void isCountedAnew() {
        Check.sentence("How many states are useful. (behind each change)");
        WriterDesk desk = Check.told(3, "", "0");
        Check.equal("state 0", desk.useful(0), 1);
        Check.edge(desk, 0, 0, 0, 1, "");
        Check.equal("an edge to a dead end", desk.useful(0), 1);
        Check.edge(desk, 0, 1, 0, 2, "");
        Check.equal("an edge more", desk.useful(0), 1);
        Check.last(desk, 0, 2, "");
        Check.equal("a final word behind it", desk.useful(0), 3);
        desk.last(0, 2, WriterDesk.NONE, 0);
        Check.equal("none any more", desk.useful(0), 1);
        desk.last(0, 0, WriterDesk.NONE, 0);
        Check.equal("none at all", desk.useful(0), 0);
        Check.last(desk, 0, 1, "");
        Check.equal("one in the middle", desk.useful(0), 2);
        desk.machine(0, 6);
        Check.equal("a new machine", desk.useful(0), 0);
        Check.throwingFor("machine", IndexOutOfBoundsException.class, m -> desk.useful(m), Check.NO_MACHINES);
    }
}
