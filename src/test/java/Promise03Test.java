/** edge. */
public final class Promise03Test {
    private Promise03Test() {
    }

    public static void main(String[] args) {
        hasNumbersAndWrites();
        refusesWrongOnes();
        endsAtTwentyFour();
        Check.finish();
    }

    private static void hasNumbersAndWrites() {
        WriterDesk desk = new WriterDesk();
        desk.machine(1, 3);
        Check.equal("edge 0", desk.edge(1, 0, 0, 1, 3, 5 | 6 << 3 | 7 << 6), 0);
        Check.equal("edge 1", desk.edge(1, 0, 1, 2, 0, 511), 1);
        Check.equal("edge 2", desk.edge(1, 1, 2, 1, 1, -1), 2);
        Check.equal("edge 3", desk.edge(1, 2, 2, 0, 2, 3 | 4 << 3 | 5 << 6), 3);
        Check.equal("another machine's edge 0", desk.edge(2, 0, 0, 0, 0, 0), 0);
        Check.equal("count(1)", desk.count(1), 5);
        Check.last(desk, 1, 1, "");
        Check.last(desk, 1, 0, "");
        Check.equal("read 0", Check.read(desk, 1, "0", 0), 1);
        Check.result("the first sign lowest", desk, "567");
        Check.equal("read 02", Check.read(desk, 1, "02", 0), 1);
        Check.result("bits behind the signs do not count", desk, "5677");
        Check.equal("read 12", Check.read(desk, 1, "12", 0), 1);
        Check.result("an edge that writes nothing", desk, "34");
        Check.equal("read 1", Check.read(desk, 1, "1", 0), 0);
        Check.equal("the same edge once more", desk.edge(1, 0, 0, 1, 3, 5 | 6 << 3 | 7 << 6), 4);
        Check.equal("count(1) once more", desk.count(1), 6);
        Check.equal("but one output", Check.read(desk, 1, "0", 0), 1);
        Check.equal("another edge by the same letter", desk.edge(1, 0, 0, 1, 0, 0), 5);
        Check.equal("two outputs", Check.read(desk, 1, "0", 0), 2);
    }

    private static void refusesWrongOnes() {
        WriterDesk desk = new WriterDesk();
        desk.machine(0, 4);
        int[] wrongStates = {-1, 4, 6, Integer.MIN_VALUE, Integer.MAX_VALUE};
        for (int q : wrongStates) {
            Check.throwing("from " + q, IllegalArgumentException.class, () -> desk.edge(0, q, 0, 0, 0, 0));
            Check.throwing("to " + q, IllegalArgumentException.class, () -> desk.edge(0, 0, 0, q, 0, 0));
        }
        int[] wrongLetters = {-1, 3, Integer.MIN_VALUE, Integer.MAX_VALUE};
        for (int letter : wrongLetters) {
            Check.throwing("letter " + letter, IllegalArgumentException.class, () -> desk.edge(0, 0, letter, 0, 0, 0));
        }
        int[] wrongLengths = {-1, 4, Integer.MIN_VALUE, Integer.MAX_VALUE};
        for (int n : wrongLengths) {
            Check.throwing("n " + n, IllegalArgumentException.class, () -> desk.edge(0, 0, 0, 0, n, 0));
        }
        int[] wrongMachines = {-1, 6, Integer.MIN_VALUE, Integer.MAX_VALUE};
        for (int m : wrongMachines) {
            Check.throwing("machine " + m, IndexOutOfBoundsException.class, () -> desk.edge(m, 9, 9, 9, 9, 0));
        }
        Check.equal("no edges were added", desk.count(1), 0);
        Check.equal("the last state", desk.edge(0, 3, 2, 3, 3, 0), 0);
    }

    private static void endsAtTwentyFour() {
        WriterDesk desk = new WriterDesk();
        desk.machine(5, 6);
        for (int e = 0; e < 24; e++) {
            Check.equal("edge", desk.edge(5, e % 6, e % 3, (e + 1) % 6, 1, e), e);
        }
        Check.throwing("edge 24", UnsupportedOperationException.class, () -> desk.edge(5, 0, 0, 0, 0, 0));
        Check.throwing("one already there", UnsupportedOperationException.class, () -> desk.edge(5, 0, 0, 1, 1, 0));
        Check.throwing("a wrong letter first", IllegalArgumentException.class, () -> desk.edge(5, 0, 3, 0, 0, 0));
        Check.throwing("a wrong state first", IllegalArgumentException.class, () -> desk.edge(5, 0, 0, 6, 0, 0));
        Check.throwing("a wrong n first", IllegalArgumentException.class, () -> desk.edge(5, 0, 0, 0, 4, 0));
        Check.equal("count(1)", desk.count(1), 24);
        Check.equal("another machine has room", desk.edge(4, 0, 0, 0, 0, 0), 0);
    }
}
