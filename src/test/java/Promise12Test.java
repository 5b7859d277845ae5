/** next. */
public final class Promise12Test {
    private Promise12Test() {
    }

    public static void main(String[] args) {
        WriterDesk desk = new WriterDesk();
        Check.throwing("none was made", IllegalStateException.class, () -> desk.next(0, 0));
        Check.throwing("none was made first", IllegalStateException.class, () -> desk.next(-1, 7));
        desk.machine(0, 2);
        Check.edge(desk, 0, 0, 0, 1, "123");
        Check.edge(desk, 0, 0, 1, 0, "");
        Check.edge(desk, 0, 1, 2, 0, "45");
        Check.edge(desk, 0, 1, 1, 1, "7");
        Check.last(desk, 0, 0, "");
        Check.throwing("none was made still", IllegalStateException.class, () -> desk.next(0, 0));
        desk.smallest(0);
        follows(desk, 0, 0, 1, "123");
        follows(desk, 0, 1, 0, "");
        follows(desk, 0, 2, WriterDesk.NONE, "");
        follows(desk, 0, 0, 1, "123");
        follows(desk, 1, 0, WriterDesk.NONE, "");
        follows(desk, 1, 1, 1, "7");
        follows(desk, 1, 2, 0, "45");
        desk.machine(0, 1);
        follows(desk, 0, 0, 1, "123");
        refusesWrongOnes(desk);
        desk.machine(0, 2);
        Check.edge(desk, 0, 0, 0, 1, "1");
        Check.edge(desk, 0, 0, 1, 1, "2");
        Check.last(desk, 0, 1, "");
        desk.smallest(0);
        follows(desk, 0, 0, 1, "1");
        follows(desk, 0, 1, 1, "2");
        follows(desk, 1, 2, WriterDesk.NONE, "");
        desk.machine(0, 1);
        desk.smallest(0);
        follows(desk, 0, 0, WriterDesk.NONE, "");
        Check.throwing("state 1 of one state", IllegalArgumentException.class, () -> desk.next(1, 0));
        Check.finish();
    }

    private static void follows(WriterDesk desk, int state, int letter, int to, String word) {
        Check.equal("next(" + state + ", " + letter + ")", desk.next(state, letter), to);
        Check.result("next(" + state + ", " + letter + ")", desk, word);
    }

    private static void refusesWrongOnes(WriterDesk desk) {
        int[] wrongStates = {-1, 2, 40, Integer.MIN_VALUE, Integer.MAX_VALUE};
        for (int state : wrongStates) {
            Check.throwing("state " + state, IllegalArgumentException.class, () -> desk.next(state, 0));
        }
        int[] wrongLetters = {-1, 3, Integer.MIN_VALUE, Integer.MAX_VALUE};
        for (int letter : wrongLetters) {
            Check.throwing("letter " + letter, IllegalArgumentException.class, () -> desk.next(0, letter));
        }
        Check.result("the result stays", desk, "123");
    }
}
