/** The boundary cases of promise 4, last. */
public final class Boundary04Test {
    private Boundary04Test() {
    }

    public static void main(String[] args) {
        lengths();
        none();
        anotherOne();
        noSuchState();
        noSuchLength();
        Check.finish();
    }

    private static WriterDesk two() {
        WriterDesk desk = Check.told(2, "0011", "02");
        Check.first(desk, 0, "3");
        return desk;
    }

    private static void lengths() {
        Check.sentence("A state's final word");
        for (int n = 0; n <= 3; n++) {
            WriterDesk desk = Check.told(6, "001 112 223 304 415", "");
            desk.last(0, 0, n, 5 | 6 << 3 | 7 << 6 | 1 << 9);
            desk.last(0, 5, n, -1);
            Check.reads(n + " signs of state 0", desk, 0, "", "567".substring(0, n));
            Check.reads(n + " signs of state 5", desk, 0, "01201", "777".substring(0, n));
            Check.reads("none of state 4", desk, 0, "0120");
        }
    }

    private static void none() {
        Check.sentence("(n NONE: it has none)");
        WriterDesk desk = Check.told(2, "001", "0 1");
        desk.last(0, 1, 0, 0);
        Check.reads("an empty one is one", desk, 0, "0", "");
        Check.equal("useful", desk.useful(0), 2);
        desk.last(0, 1, -1, 511);
        Check.reads("none", desk, 0, "0");
        Check.equal("useful", desk.useful(0), 1);
        desk.last(0, 1, -1, 0);
        Check.reads("none, told twice", desk, 0, "0");
        Check.reads("the other state has one still", desk, 0, "", "");
        desk.last(0, 1, 1, 4);
        Check.reads("one once more", desk, 0, "0", "4");
        desk.last(0, 0, -1, 0);
        Check.reads("none of state 0", desk, 0, "");
        Check.reads("state 1 has one still", desk, 0, "0", "4");
    }

    private static void anotherOne() {
        Check.sentence("A state's final word (the one told last)");
        WriterDesk desk = new WriterDesk();
        int[] lengths = {3, 1, 2, 0, 3, 0, 1, 3};
        for (int i = 0; i < lengths.length; i++) {
            desk.last(0, 0, lengths[i], (i % 2 == 0 ? 5 : 2) * 0x49);
            Check.reads("word " + i, desk, 0, "", (i % 2 == 0 ? "555" : "222").substring(0, lengths[i]));
        }
    }

    private static void noSuchState() {
        Check.sentence("IllegalArgumentException, when there is no such state");
        int[] none = {-1, 2, 6, Integer.MIN_VALUE, Integer.MAX_VALUE};
        Check.refusedFor("a word of state", IllegalArgumentException.class, Boundary04Test::two,
                (desk, q) -> desk.last(0, q, 1, 7), none);
        Check.refusedFor("no word of state", IllegalArgumentException.class, Boundary04Test::two,
                (desk, q) -> desk.last(0, q, -1, 7), none);
        WriterDesk desk = two();
        desk.last(0, 1, 1, 7);
        Check.reads("state 1 is there", desk, 0, "0", "317");
    }

    private static void noSuchLength() {
        Check.sentence("IllegalArgumentException, when [..] n is not -1 .. 3.");
        Check.refusedFor("n", IllegalArgumentException.class, Boundary04Test::two, (desk, n) -> desk.last(0, 0, n, 7),
                -2, 4, Integer.MIN_VALUE, Integer.MAX_VALUE);
        WriterDesk desk = two();
        desk.last(0, 0, 3, 7);
        Check.reads("n 3", desk, 0, "", "3700");
        desk.last(0, 0, -1, 7);
        Check.reads("n -1", desk, 0, "");
    }
}
