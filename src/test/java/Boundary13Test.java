/** The boundary cases of promise 13, ends. */
public final class Boundary13Test {
    private Boundary13Test() {
    }

    public static void main(String[] args) {
        whether();
        thatWord();
        firstWord();
        noneMade();
        noSuchState();
        Check.finish();
    }

    /** State 0 has no final word, state 1 has 67, state 2 an empty one; the first word is 12. */
    private static WriterDesk made() {
        WriterDesk desk = Check.told(3, "0012 1123 1210", "167 2");
        Check.first(desk, 0, "1");
        desk.smallest(0);
        return desk;
    }

    private static void ends(String what, WriterDesk desk, int state, boolean due, String word) {
        Check.equal(what, desk.ends(state), due);
        Check.result(what, desk, word);
    }

    private static void whether() {
        Check.sentence("Whether a state of the smallest machine has a final word");
        WriterDesk desk = made();
        ends("state 0 has none", desk, 0, false, "");
        ends("state 1 has one", desk, 1, true, "67");
        ends("state 2 has an empty one", desk, 2, true, "");
        desk.smallest(5);
        ends("state 0 has none, when no word has an output", desk, 0, false, "");
        Check.last(desk, 5, 0, "");
        ends("of the machine as it was", desk, 0, false, "");
        desk.smallest(5);
        ends("an empty output", desk, 0, true, "");
    }

    private static void thatWord() {
        Check.sentence("the result is that word");
        WriterDesk desk = made();
        ends("two signs", desk, 1, true, "67");
        ends("none", desk, 0, false, "");
        ends("two signs once more", desk, 1, true, "67");
        ends("an empty one", desk, 2, true, "");
        Check.tell(desk, 0, 1, "0001", "0234");
        desk.smallest(0);
        ends("three signs", desk, 0, true, "234");
        Check.tell(desk, 0, 1, "0001", "0123");
        desk.smallest(0);
        ends("one of its signs is written first", desk, 0, true, "23");
    }

    private static void firstWord() {
        Check.sentence("with state NONE: true, and its first word");
        ends("two signs", made(), WriterDesk.NONE, true, "12");
        ends("two signs, told as -1", made(), -1, true, "12");
        WriterDesk desk = made();
        Check.first(desk, 0, "777");
        ends("of the machine as it was", desk, WriterDesk.NONE, true, "12");
        desk.smallest(0);
        ends("four signs", desk, WriterDesk.NONE, true, "7772");
        desk.smallest(5);
        ends("none, when no word has an output", desk, WriterDesk.NONE, true, "");
        Check.first(desk, 5, "777");
        desk.smallest(5);
        ends("none, though there is a first word", desk, WriterDesk.NONE, true, "");
        Check.last(desk, 5, 0, "654");
        desk.smallest(5);
        ends("the only output", desk, WriterDesk.NONE, true, "777654");
    }

    private static void noneMade() {
        Check.sentence("IllegalStateException, when none was made");
        for (int state = -1; state < 2; state++) {
            int asked = state;
            Check.refused("state " + state, IllegalStateException.class, () -> Check.told(1, "0001", "07"),
                    desk -> desk.ends(asked));
        }
        WriterDesk desk = Check.told(1, "0001 0002", "07");
        Check.throwing("no function", IllegalStateException.class, () -> desk.smallest(0));
        Check.throwing("still none", IllegalStateException.class, () -> desk.ends(WriterDesk.NONE));
        desk.smallest(1);
        ends("one", desk, WriterDesk.NONE, true, "");
    }

    private static void noSuchState() {
        Check.sentence("IllegalArgumentException, when there is no such state");
        Check.refusedFor("state", IllegalArgumentException.class, Boundary13Test::made, (desk, q) -> desk.ends(q),
                -2, 3, 40, Integer.MIN_VALUE, Integer.MAX_VALUE);
        ends("the last one", made(), 2, true, "");
        WriterDesk desk = Known.forty();
        desk.smallest(0);
        Check.throwing("state 40 of 40", IllegalArgumentException.class, () -> desk.ends(40));
        String[] states = Known.fortyMade().split("\\|");
        ends("state 39 of 40", desk, 39, states[40].endsWith("."), "");
        desk.smallest(1);
        Check.throwingFor("state of one alone", IllegalArgumentException.class, q -> desk.ends(q), 1, 39, -2);
    }
}
