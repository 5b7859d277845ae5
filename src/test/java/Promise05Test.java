/** first. */
public final class Promise05Test {
    private Promise05Test() {
    }

    public static void main(String[] args) {
        WriterDesk desk = new WriterDesk();
        Check.edge(desk, 4, 0, 0, 0, "1");
        Check.last(desk, 4, 0, "2");
        desk.first(4, 3, 5 | 6 << 3 | 7 << 6);
        Check.equal("read", Check.read(desk, 4, "00", 0), 1);
        Check.result("read", desk, "567112");
        desk.first(4, 1, 3 | 7 << 3);
        Check.result("the result stays", desk, "567112");
        Check.equal("another one", Check.read(desk, 4, "", 0), 1);
        Check.result("another one", desk, "32");
        desk.first(4, 2, -1);
        Check.equal("all bits", Check.read(desk, 4, "", 0), 1);
        Check.result("all bits", desk, "772");
        Check.equal("another machine's", Check.read(desk, 3, "", 0), 0);
        Check.last(desk, 3, 0, "");
        Check.equal("is empty", Check.read(desk, 3, "", 0), 1);
        Check.result("is empty", desk, "");
        int[] wrongLengths = {-1, 4, Integer.MIN_VALUE, Integer.MAX_VALUE};
        for (int n : wrongLengths) {
            Check.throwing("n " + n, IllegalArgumentException.class, () -> desk.first(4, n, 0));
        }
        int[] wrongMachines = {-1, 6, Integer.MIN_VALUE, Integer.MAX_VALUE};
        for (int m : wrongMachines) {
            Check.throwing("machine " + m, IndexOutOfBoundsException.class, () -> desk.first(m, 9, 0));
        }
        Check.equal("all stays", Check.read(desk, 4, "", 0), 1);
        Check.result("all stays", desk, "772");
        desk.first(4, 0, 511);
        Check.equal("an empty one", Check.read(desk, 4, "", 0), 1);
        Check.result("an empty one", desk, "2");
        Check.finish();
    }
}
