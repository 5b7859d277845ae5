/** The boundary cases of promise 14, count. */
public final class Boundary14Test {
    private Boundary14Test() {
    }

    public static void main(String[] args) {
        lengthOfTheResult();
        edgesTogether();
        statesOfTheSmallestMachine();
        anotherWhat();
        Check.finish();
    }

    private static void lengthOfTheResult() {
        Check.sentence("How long the result is (0)");
        WriterDesk desk = new WriterDesk();
        Check.equal("at first", desk.count(0), 0);
        Check.tell(desk, 0, 1, "000123", "0456");
        Check.first(desk, 0, "701");
        for (int n = 0; n <= 10; n++) {
            desk.read(0, n, 0, 0);
            Check.equal(n + " letters", desk.count(0), 6 + 3 * n);
        }
        desk.read(0, 0, 0, 1);
        Check.equal("no output 1", desk.count(0), 0);
        Check.tell(desk, 1, 6, Known.ALL_UP_TO_THIRTY, "0 1 2 3 4 5");
        Check.tell(desk, 2, 1, "000 010 020", "0");
        desk.isSame(1, 2);
        Check.equal("a word to read", desk.count(0), 31);
        desk.isFunction(0);
        Check.equal("no word", desk.count(0), 0);
    }

    private static void edgesTogether() {
        Check.sentence("edges of machines together (1)");
        WriterDesk desk = new WriterDesk();
        int sum = 0;
        Check.equal("none", desk.count(1), 0);
        for (int m = 0; m < 6; m++) {
            for (int e = 0; e < 24; e++) {
                desk.edge(m, 0, 0, 0, 0, 0);
                sum++;
            }
            Check.equal("up to machine " + m, desk.count(1), sum);
        }
        Check.equal("all that there can be", desk.count(1), 144);
        Check.throwing("one more", UnsupportedOperationException.class, () -> desk.edge(0, 0, 0, 0, 0, 0));
        Check.equal("no one more", desk.count(1), 144);
        desk.machine(0, 1);
        Check.equal("without the first machine's", desk.count(1), 120);
        desk.machine(5, 1);
        Check.equal("without the last machine's", desk.count(1), 96);
    }

    private static void statesOfTheSmallestMachine() {
        Check.sentence("states of the smallest machine (2; 0 when none was made)");
        WriterDesk desk = Check.told(3, "0011 1022", "2");
        Check.equal("none was made", desk.count(2), 0);
        desk.isSteady(0);
        Check.equal("still none", desk.count(2), 0);
        Check.tell(desk, 1, 1, "000 0001", "0");
        Check.throwing("no function", IllegalStateException.class, () -> desk.smallest(1));
        Check.equal("none was made of no function", desk.count(2), 0);
        desk.smallest(2);
        Check.equal("one without outputs", desk.count(2), 1);
        desk.smallest(0);
        Check.equal("one of three states", desk.count(2), 3);
        Check.throwing("no function", IllegalStateException.class, () -> desk.smallest(1));
        Check.equal("it stays", desk.count(2), 3);
        Check.tell(desk, 3, 6, Known.FORTY, "0");
        desk.smallest(3);
        Check.equal("as many as there can be", desk.count(2), 40);
    }

    private static void anotherWhat() {
        Check.sentence("NONE for another what.");
        int[] others = {-1, 3, 4, -2, Integer.MIN_VALUE, Integer.MAX_VALUE};
        WriterDesk desk = new WriterDesk();
        for (int what : others) {
            Check.equal("count(" + what + ")", desk.count(what), WriterDesk.NONE);
        }
        for (int what = 0; what < 3; what++) {
            Check.equal("count(" + what + ")", desk.count(what), 0);
        }
        Check.tell(desk, 0, 1, "0001", "07");
        desk.smallest(0);
        Check.read(desk, 0, "", 0);
        for (int what : others) {
            Check.equal("count(" + what + ")", desk.count(what), WriterDesk.NONE);
        }
        for (int what = 0; what < 3; what++) {
            Check.equal("count(" + what + ")", desk.count(what), 1);
        }
    }
}
