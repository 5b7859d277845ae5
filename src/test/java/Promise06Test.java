/** useful. */
public final class Promise06Test {
    private Promise06Test() {
    }

    public static void main(String[] args) {
        WriterDesk desk = new WriterDesk();
        desk.machine(1, 6);
        Check.equal("no final word", desk.useful(1), 0);
        Check.last(desk, 1, 3, "1");
        Check.equal("none to come to", desk.useful(1), 0);
        Check.edge(desk, 1, 2, 0, 3, "");
        Check.edge(desk, 1, 1, 0, 2, "");
        Check.equal("still none", desk.useful(1), 0);
        Check.edge(desk, 1, 0, 1, 1, "");
        Check.equal("a way of three edges", desk.useful(1), 4);
        Check.edge(desk, 1, 3, 1, 4, "");
        Check.equal("a dead end", desk.useful(1), 4);
        Check.edge(desk, 1, 5, 1, 3, "");
        Check.equal("one that is not come to", desk.useful(1), 4);
        Check.edge(desk, 1, 4, 1, 4, "");
        Check.equal("a dead end that goes round", desk.useful(1), 4);
        Check.edge(desk, 1, 4, 2, 0, "");
        Check.equal("no dead end any more", desk.useful(1), 5);
        Check.edge(desk, 1, 2, 2, 5, "");
        Check.equal("all", desk.useful(1), 6);
        desk.last(1, 3, WriterDesk.NONE, 0);
        Check.equal("none without a final word", desk.useful(1), 0);
        Check.last(desk, 1, 0, "");
        Check.equal("all, round", desk.useful(1), 6);
        Check.read(desk, 1, "0", 0);
        Check.first(desk, 1, "77");
        Check.read(desk, 1, "", 0);
        Check.equal("useful once more", desk.useful(1), 6);
        Check.result("the result stays", desk, "77");
        int[] wrongMachines = {-1, 6, Integer.MIN_VALUE, Integer.MAX_VALUE};
        for (int m : wrongMachines) {
            Check.throwing("machine " + m, IndexOutOfBoundsException.class, () -> desk.useful(m));
        }
        Check.finish();
    }
}
