/** sign. */
public final class Promise15Test {
    private Promise15Test() {
    }

    public static void main(String[] args) {
        WriterDesk desk = new WriterDesk();
        hasNone(desk, 0);
        Check.first(desk, 0, "012");
        Check.edge(desk, 0, 0, 2, 0, "345");
        Check.last(desk, 0, 0, "67");
        Check.read(desk, 0, "2", 0);
        int[] due = {0, 1, 2, 3, 4, 5, 6, 7};
        for (int i = 0; i < due.length; i++) {
            Check.equal("sign(" + i + ")", desk.sign(i), due[i]);
        }
        hasNone(desk, 8);
        Check.read(desk, 0, "2222222222", 0);
        Check.equal("sign(34)", desk.sign(34), 7);
        Check.equal("sign(33)", desk.sign(33), 6);
        Check.equal("sign(15)", desk.sign(15), 3);
        Check.equal("sign(16)", desk.sign(16), 4);
        hasNone(desk, 35);
        Check.read(desk, 0, "1", 0);
        hasNone(desk, 0);
        Check.edge(desk, 0, 0, 1, 0, "1");
        Check.edge(desk, 0, 0, 1, 0, "2");
        desk.isFunction(0);
        Check.equal("a letter", desk.sign(0), 1);
        hasNone(desk, 1);
        Check.equal("sign changes nothing", desk.sign(0), 1);
        Check.finish();
    }

    private static void hasNone(WriterDesk desk, int end) {
        int[] wrong = {-1, end, end + 1, Integer.MIN_VALUE, Integer.MAX_VALUE};
        for (int i : wrong) {
            Check.throwing("sign(" + i + ") of " + end, IndexOutOfBoundsException.class, () -> desk.sign(i));
        }
    }
}
