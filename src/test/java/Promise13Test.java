/** ends. */
public final class Promise13Test {
    private Promise13Test() {
    }

    public static void main(String[] args) {
        WriterDesk desk = new WriterDesk();
        Check.throwing("none was made", IllegalStateException.class, () -> desk.ends(0));
        Check.throwing("none was made", IllegalStateException.class, () -> desk.ends(WriterDesk.NONE));
        Check.throwing("none was made first", IllegalStateException.class, () -> desk.ends(-2));
        desk.machine(0, 3);
        Check.first(desk, 0, "12");
        Check.edge(desk, 0, 0, 0, 1, "3");
        Check.edge(desk, 0, 1, 1, 2, "4");
        Check.edge(desk, 0, 1, 2, 0, "1");
        Check.last(desk, 0, 1, "56");
        Check.last(desk, 0, 2, "");
        desk.smallest(0);
        ends(desk, WriterDesk.NONE, true, "123");
        ends(desk, 0, false, "");
        ends(desk, 1, true, "56");
        ends(desk, 2, true, "");
        ends(desk, 1, true, "56");
        ends(desk, 0, false, "");
        ends(desk, WriterDesk.NONE, true, "123");
        int[] wrongStates = {-2, 3, 40, Integer.MIN_VALUE, Integer.MAX_VALUE};
        for (int state : wrongStates) {
            Check.throwing("state " + state, IllegalArgumentException.class, () -> desk.ends(state));
        }
        Check.result("the result stays", desk, "123");
        desk.machine(0, 1);
        ends(desk, 2, true, "");
        desk.smallest(0);
        ends(desk, WriterDesk.NONE, true, "");
        ends(desk, 0, false, "");
        Check.throwing("state 1 of one state", IllegalArgumentException.class, () -> desk.ends(1));
        forgetsOldWords(desk);
        Check.finish();
    }

    /** States that had final words in machines made before. */
    private static void forgetsOldWords(WriterDesk desk) {
        for (int round = 0; round < 3; round++) {
            desk.machine(0, 3);
            Check.edge(desk, 0, 0, 0, 1, "1");
            Check.edge(desk, 0, 1, 0, 2, "2");
            Check.edge(desk, 0, 2, 1, 0, "3");
            for (int q = 0; q < 3; q++) {
                Check.last(desk, 0, q, "4567".substring(q, q + 2));
            }
            desk.smallest(0);
            ends(desk, 1, true, "56");
        }
        desk.last(0, 0, WriterDesk.NONE, 0);
        desk.last(0, 1, WriterDesk.NONE, 0);
        desk.smallest(0);
        ends(desk, WriterDesk.NONE, true, "12");
        ends(desk, 0, false, "");
        ends(desk, 1, false, "");
        ends(desk, 2, true, "67");
    }

    private static void ends(WriterDesk desk, int state, boolean due, String word) {
        Check.equal("ends(" + state + ")", desk.ends(state), due);
        Check.result("ends(" + state + ")", desk, word);
    }
}
