/** The boundary cases of promise 5, first. */
public final class Boundary05Test {
    private Boundary05Test() {
    }

    public static void main(String[] args) {
        lengths();
        anotherOne();
        noSuchLength();
        Check.finish();
    }

    private static void lengths() {
        Check.sentence("A machine's first word.");
        for (int n = 0; n <= 3; n++) {
            WriterDesk desk = Check.told(1, "0001", "02");
            desk.first(0, n, 5 | 6 << 3 | 7 << 6 | 1 << 9);
            Check.reads(n + " signs", desk, 0, "", "567".substring(0, n) + "2");
            Check.reads(n + " signs", desk, 0, "0", "567".substring(0, n) + "12");
            desk.first(0, n, Integer.MIN_VALUE);
            Check.reads("the highest bit alone", desk, 0, "", "000".substring(0, n) + "2");
            Check.tell(desk, 5, 1, "", "0");
            Check.reads("not another machine's", desk, 5, "", "");
        }
    }

    private static void anotherOne() {
        Check.sentence("A machine's first word (the one told last).");
        WriterDesk desk = Check.told(1, "", "0");
        int[] lengths = {3, 1, 2, 0, 3, 0, 1, 3};
        for (int i = 0; i < lengths.length; i++) {
            desk.first(0, lengths[i], (i % 2 == 0 ? 5 : 2) * 0x49);
            Check.reads("word " + i, desk, 0, "", (i % 2 == 0 ? "555" : "222").substring(0, lengths[i]));
        }
    }

    private static WriterDesk withFirst() {
        WriterDesk desk = Check.told(1, "0001", "02");
        Check.first(desk, 0, "34");
        return desk;
    }

    private static void noSuchLength() {
        Check.sentence("IllegalArgumentException, when n is not 0 .. 3.");
        Check.refusedFor("n", IllegalArgumentException.class, Boundary05Test::withFirst,
                (desk, n) -> desk.first(0, n, 7), -1, 4, -2, Integer.MIN_VALUE, Integer.MAX_VALUE);
        WriterDesk desk = withFirst();
        desk.first(0, 3, 7);
        Check.reads("n 3", desk, 0, "", "7002");
        desk.first(0, 0, 7);
        Check.reads("n 0", desk, 0, "", "2");
    }
}
