/** last. */
public final class Promise04Test {
    private Promise04Test() {
    }

    public static void main(String[] args) {
        WriterDesk desk = new WriterDesk();
        desk.machine(0, 2);
        Check.edge(desk, 0, 0, 2, 1, "4");
        desk.last(0, 1, 3, 1 | 2 << 3 | 3 << 6);
        Check.equal("read", Check.read(desk, 0, "2", 0), 1);
        Check.result("read", desk, "4123");
        Check.equal("state 0 has none", Check.read(desk, 0, "", 0), 0);
        desk.last(0, 1, 1, 7 | 7 << 3);
        Check.result("the result stays", desk, "");
        Check.equal("another one", Check.read(desk, 0, "2", 0), 1);
        Check.result("another one", desk, "47");
        desk.last(0, 1, 0, 511);
        Check.equal("an empty one", Check.read(desk, 0, "2", 0), 1);
        Check.result("an empty one", desk, "4");
        desk.last(0, 1, 2, -1);
        Check.equal("all bits", Check.read(desk, 0, "2", 0), 1);
        Check.result("all bits", desk, "477");
        desk.last(0, 0, 0, 0);
        desk.last(0, 1, WriterDesk.NONE, 5);
        Check.equal("none any more", Check.read(desk, 0, "2", 0), 0);
        Check.equal("one for the other state", Check.read(desk, 0, "", 0), 1);
        Check.equal("useful", desk.useful(0), 1);
        desk.last(0, 1, WriterDesk.NONE, 0);
        Check.equal("none still", desk.useful(0), 1);
        refusesWrongOnes(desk);
        Check.finish();
    }

    private static void refusesWrongOnes(WriterDesk desk) {
        int[] wrongLengths = {-2, 4, Integer.MIN_VALUE, Integer.MAX_VALUE};
        for (int n : wrongLengths) {
            Check.throwing("n " + n, IllegalArgumentException.class, () -> desk.last(0, 1, n, 0));
        }
        int[] wrongStates = {-1, 2, 6, Integer.MIN_VALUE, Integer.MAX_VALUE};
        for (int q : wrongStates) {
            Check.throwing("state " + q, IllegalArgumentException.class, () -> desk.last(0, q, 0, 0));
            Check.throwing("none of state " + q, IllegalArgumentException.class, () -> desk.last(0, q, -1, 0));
        }
        int[] wrongMachines = {-1, 6, Integer.MIN_VALUE, Integer.MAX_VALUE};
        for (int m : wrongMachines) {
            Check.throwing("machine " + m, IndexOutOfBoundsException.class, () -> desk.last(m, 9, 9, 0));
        }
        Check.equal("all stays", desk.useful(0), 1);
        Check.equal("all stays for reading", Check.read(desk, 0, "2", 0), 0);
    }
}
