/** read. */
public final class Promise07Test {
    private Promise07Test() {
    }

    public static void main(String[] args) {
        hasOrderedOutputs();
        readsOnlyUseful();
        readsTenLetters();
        refusesWrongOnes();
        endsAtTwoHundredWays();
        Check.finish();
    }

    private static void hasOrderedOutputs() {
        WriterDesk desk = new WriterDesk();
        desk.machine(0, 3);
        Check.edge(desk, 0, 0, 0, 1, "20");
        Check.edge(desk, 0, 0, 0, 1, "7");
        Check.edge(desk, 0, 0, 0, 2, "02");
        Check.edge(desk, 0, 0, 0, 2, "021");
        Check.edge(desk, 0, 0, 0, 1, "12");
        Check.edge(desk, 0, 0, 0, 1, "7");
        Check.edge(desk, 0, 0, 0, 2, "");
        Check.last(desk, 0, 1, "");
        Check.last(desk, 0, 2, "0");
        String[] due = {"0", "7", "12", "20", "020", "0210"};
        for (int k = 0; k < due.length; k++) {
            Check.equal("read 0", Check.read(desk, 0, "0", k), due.length);
            Check.result("output " + k, desk, due[k]);
        }
        int[] wrongPlaces = {-1, 6, Integer.MIN_VALUE, Integer.MAX_VALUE};
        for (int k : wrongPlaces) {
            Check.read(desk, 0, "0", 0);
            Check.equal("read", Check.read(desk, 0, "0", k), due.length);
            Check.result("output " + k, desk, "");
        }
        Check.edge(desk, 0, 0, 0, 1, "020");
        Check.equal("two ways, one output", Check.read(desk, 0, "0", 5), due.length);
        Check.result("two ways, one output", desk, "0210");
        Check.equal("no output", Check.read(desk, 0, "1", 0), 0);
        Check.result("no output", desk, "");
    }

    private static void readsOnlyUseful() {
        WriterDesk desk = new WriterDesk();
        desk.machine(0, 2);
        Check.edge(desk, 0, 0, 0, 1, "1");
        Check.equal("the empty word", Check.read(desk, 0, "", 0), 0);
        Check.last(desk, 0, 0, "");
        Check.equal("to a state without final word", Check.read(desk, 0, "0", 0), 0);
        Check.equal("the empty word", Check.read(desk, 0, "", 0), 1);
    }

    private static void readsTenLetters() {
        WriterDesk desk = new WriterDesk();
        Check.edge(desk, 0, 0, 0, 0, "012");
        Check.edge(desk, 0, 0, 1, 0, "345");
        Check.edge(desk, 0, 0, 2, 0, "676");
        Check.first(desk, 0, "777");
        Check.last(desk, 0, 0, "111");
        Check.equal("read", Check.read(desk, 0, "0120122101", 0), 1);
        Check.result("read", desk, "777012345676012345676676345012345111");
        Check.equal("bits behind the word", desk.read(0, 2, -1 << 4 | 2 << 2 | 1, 0), 1);
        Check.result("bits behind the word", desk, "777345676111");
        Check.equal("bits behind no letters", desk.read(0, 0, -1, 0), 1);
        Check.result("bits behind no letters", desk, "777111");
    }

    private static void refusesWrongOnes() {
        WriterDesk desk = new WriterDesk();
        Check.first(desk, 0, "5");
        Check.last(desk, 0, 0, "6");
        Check.read(desk, 0, "", 0);
        int[] wrongLengths = {-1, 11, Integer.MIN_VALUE, Integer.MAX_VALUE};
        for (int n : wrongLengths) {
            Check.throwing("n " + n, IllegalArgumentException.class, () -> desk.read(0, n, 0, 0));
        }
        for (int at = 0; at < 10; at++) {
            int word = 3 << 2 * at;
            int n = at;
            Check.throwing("letter 3", IllegalArgumentException.class, () -> desk.read(0, n + 1, word, 0));
            Check.throwing("letter 3 of ten", IllegalArgumentException.class, () -> desk.read(0, 10, word, 0));
        }
        int[] wrongMachines = {-1, 6, Integer.MIN_VALUE, Integer.MAX_VALUE};
        for (int m : wrongMachines) {
            Check.throwing("machine " + m, IndexOutOfBoundsException.class, () -> desk.read(m, 11, 3, 0));
        }
        Check.result("the result stays", desk, "56");
    }

    /** 8 * 5 * 5 ways stay in state 0, and one goes by state 1. */
    private static void endsAtTwoHundredWays() {
        WriterDesk desk = new WriterDesk();
        desk.machine(0, 2);
        for (int sign = 0; sign < 8; sign++) {
            desk.edge(0, 0, 0, 0, 1, sign);
        }
        for (int sign = 0; sign < 5; sign++) {
            desk.edge(0, 0, 1, 0, 1, sign);
            desk.edge(0, 0, 2, 0, 1, sign);
        }
        Check.edge(desk, 0, 0, 0, 1, "0");
        Check.edge(desk, 0, 1, 1, 1, "0");
        Check.edge(desk, 0, 1, 2, 1, "0");
        Check.last(desk, 0, 0, "");
        Check.equal("200 ways, those by a state that is not useful not counted", Check.read(desk, 0, "012", 199), 200);
        Check.result("the last one", desk, "744");
        Check.read(desk, 0, "012", 7);
        Check.result("another one", desk, "012");
        Check.last(desk, 0, 1, "");
        Check.throwing("201 ways", UnsupportedOperationException.class, () -> Check.read(desk, 0, "012", 0));
        Check.result("the result stays", desk, "012");
        Check.throwing("behind some letters", UnsupportedOperationException.class,
                () -> Check.read(desk, 0, "0120", 0));
        Check.throwing("a wrong letter first", IllegalArgumentException.class, () -> desk.read(0, 4, 228, 0));
        Check.equal("41 ways", Check.read(desk, 0, "01", 0), 40);
    }
}
