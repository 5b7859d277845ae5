/** count. */
public final class Promise14Test {
    private Promise14Test() {
    }

    private static void counts(WriterDesk desk, String name, int result, int edges, int states) {
        Check.equal(name + ": count(0)", desk.count(0), result);
        Check.equal(name + ": count(1)", desk.count(1), edges);
        Check.equal(name + ": count(2)", desk.count(2), states);
    }

    public static void main(String[] args) {
        WriterDesk desk = new WriterDesk();
        counts(desk, "at first", 0, 0, 0);
        for (int m = 0; m < 6; m++) {
            desk.machine(m, 2);
            Check.edge(desk, m, 0, 0, 1, "1");
            Check.edge(desk, m, 1, 1, 0, "2");
            Check.edge(desk, m, 1, 1, 0, "2");
            counts(desk, "edges", 0, 3 * m + 3, 0);
        }
        Check.last(desk, 2, 1, "34");
        Check.read(desk, 2, "0", 0);
        counts(desk, "read", 3, 18, 0);
        desk.smallest(2);
        counts(desk, "smallest", 3, 18, 2);
        desk.machine(3, 1);
        counts(desk, "machine", 3, 15, 2);
        desk.smallest(3);
        counts(desk, "smallest", 3, 15, 1);
        desk.isFunction(2);
        counts(desk, "isFunction", 0, 15, 1);
        int[] others = {-1, 3, 4, Integer.MIN_VALUE, Integer.MAX_VALUE};
        for (int what : others) {
            Check.equal("count(" + what + ")", desk.count(what), WriterDesk.NONE);
        }
        for (int e = 3; e < 24; e++) {
            Check.edge(desk, 0, 0, 0, 1, "1");
        }
        counts(desk, "a machine full", 0, 36, 1);
        Check.finish();
    }
}
