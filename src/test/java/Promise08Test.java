/** isFunction. */
public final class Promise08Test {
    private Promise08Test() {
    }

    private static void isNone(WriterDesk desk, String name, String word) {
        Check.equal(name, desk.isFunction(0), false);
        Check.result(name, desk, word);
        Check.equal(name + ": outputs of its word", Check.read(desk, 0, word, 0) > 1, true);
    }

    private static void isOne(WriterDesk desk, String name) {
        Check.equal(name, desk.isFunction(0), true);
        Check.result(name, desk, "");
    }

    public static void main(String[] args) {
        findsTheFirstWord();
        letsWaysMeetAgain();
        followsAllWaysOfAWord();
        findsLongWords();
        countsOnlyUseful();
        int[] wrongMachines = {-1, 6, Integer.MIN_VALUE, Integer.MAX_VALUE};
        for (int m : wrongMachines) {
            Check.throwing("machine " + m, IndexOutOfBoundsException.class, () -> new WriterDesk().isFunction(m));
        }
        Check.finish();
    }

    private static void findsTheFirstWord() {
        WriterDesk desk = new WriterDesk();
        isOne(desk, "no output at all");
        Check.last(desk, 0, 0, "");
        isOne(desk, "one output");
        Check.edge(desk, 0, 0, 2, 0, "1");
        Check.edge(desk, 0, 0, 2, 0, "1");
        isOne(desk, "the same edge twice");
        Check.edge(desk, 0, 0, 2, 0, "");
        isNone(desk, "two by 2", "2");
        Check.edge(desk, 0, 0, 1, 0, "1");
        Check.edge(desk, 0, 0, 1, 0, "12");
        isNone(desk, "two by 1", "1");
    }

    private static void letsWaysMeetAgain() {
        WriterDesk desk = new WriterDesk();
        desk.machine(0, 4);
        Check.edge(desk, 0, 0, 0, 1, "123");
        Check.edge(desk, 0, 0, 0, 2, "1");
        Check.edge(desk, 0, 1, 1, 3, "4");
        Check.edge(desk, 0, 2, 1, 3, "234");
        Check.last(desk, 0, 3, "5");
        isOne(desk, "123 4 and 1 234");
        Check.last(desk, 0, 1, "");
        isOne(desk, "one of the two ends");
        Check.last(desk, 0, 2, "23");
        isOne(desk, "both end, writing the same");
        Check.last(desk, 0, 2, "22");
        isNone(desk, "both end, writing others", "0");
        desk.last(0, 1, WriterDesk.NONE, 0);
        Check.edge(desk, 0, 2, 1, 3, "23");
        isNone(desk, "a third way", "01");
    }

    /** The word 20 comes before 21, though its pair of states is looked at later. */
    private static void followsAllWaysOfAWord() {
        WriterDesk desk = new WriterDesk();
        desk.machine(0, 4);
        Check.edge(desk, 0, 0, 2, 1, "");
        Check.edge(desk, 0, 0, 2, 2, "");
        Check.edge(desk, 0, 1, 1, 3, "1");
        Check.edge(desk, 0, 1, 1, 3, "2");
        Check.edge(desk, 0, 2, 0, 3, "1");
        Check.edge(desk, 0, 2, 0, 3, "2");
        Check.last(desk, 0, 3, "");
        isNone(desk, "20 and 21", "20");
    }

    /** Ways that go round by two and by three states end together after six letters first. */
    private static void findsLongWords() {
        WriterDesk desk = new WriterDesk();
        desk.machine(0, 6);
        int[] from = {0, 1, 2, 0, 3, 4, 5};
        int[] to = {1, 2, 1, 3, 4, 5, 3};
        for (int e = 0; e < from.length; e++) {
            Check.edge(desk, 0, from[e], 1, to[e], "3");
        }
        Check.last(desk, 0, 2, "1");
        Check.last(desk, 0, 5, "1");
        isOne(desk, "rounds of two and three");
        Check.last(desk, 0, 5, "2");
        isNone(desk, "rounds of two and three, ends differ", "111111");
    }

    private static void countsOnlyUseful() {
        WriterDesk desk = new WriterDesk();
        desk.machine(0, 2);
        Check.edge(desk, 0, 0, 0, 1, "1");
        Check.edge(desk, 0, 0, 0, 1, "2");
        Check.edge(desk, 0, 0, 1, 0, "1");
        Check.last(desk, 0, 0, "");
        isOne(desk, "two edges to a dead end");
        Check.edge(desk, 0, 1, 2, 0, "");
        isNone(desk, "no dead end", "02");
    }
}
