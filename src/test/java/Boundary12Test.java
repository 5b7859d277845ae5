/** The boundary cases of promise 12, next. */
public final class Boundary12Test {
    private Boundary12Test() {
    }

    public static void main(String[] args) {
        where();
        none();
        whatItWrites();
        noneMade();
        noSuchState();
        noSuchLetter();
        Check.finish();
    }

    /** The word 0 goes to a state behind which 1 goes on and 2 goes back. */
    private static WriterDesk made() {
        WriterDesk desk = Check.told(2, "001123 1117 12045", "16");
        desk.smallest(0);
        return desk;
    }

    private static void goesTo(String what, WriterDesk desk, int state, int letter, int to, String word) {
        Check.equal(what, desk.next(state, letter), to);
        Check.result(what, desk, word);
    }

    private static void where() {
        Check.sentence("The state that the smallest machine goes to from a state by a letter");
        WriterDesk desk = made();
        goesTo("to another one", desk, 0, 0, 1, "");
        goesTo("to itself", desk, 1, 1, 1, "7");
        goesTo("back", desk, 1, 2, 0, "45123");
        Check.tell(desk, 0, 6, Known.FORTY, "0");
        Check.equal("40 states", desk.smallest(0), 40);
        String[] states = Known.fortyMade().split("\\|");
        for (int letter = 0; letter < 3; letter++) {
            String edge = states[40].split(" ")[letter];
            int due = edge.equals("-") ? WriterDesk.NONE : Integer.parseInt(edge.replace(":", ""));
            Check.equal("from the last of 40 states", desk.next(39, letter), due);
        }
    }

    private static void none() {
        Check.sentence("(NONE: there is no edge)");
        WriterDesk desk = made();
        goesTo("an edge", desk, 1, 2, 0, "45123");
        goesTo("none", desk, 0, 1, WriterDesk.NONE, "");
        goesTo("an edge", desk, 1, 1, 1, "7");
        goesTo("none", desk, 0, 2, WriterDesk.NONE, "");
        goesTo("an edge", desk, 1, 2, 0, "45123");
        goesTo("none", desk, 1, 0, WriterDesk.NONE, "");
        desk.smallest(5);
        for (int letter = 0; letter < 3; letter++) {
            goesTo("no output", desk, 0, letter, WriterDesk.NONE, "");
        }
    }

    private static void whatItWrites() {
        Check.sentence("the result is what it writes");
        WriterDesk desk = Check.told(1, "000 0101 020765", "0");
        desk.smallest(0);
        goesTo("three signs", desk, 0, 2, 0, "765");
        goesTo("no sign", desk, 0, 0, 0, "");
        goesTo("one sign", desk, 0, 1, 0, "1");
        desk.machine(0, 2);
        goesTo("of the machine as it was", desk, 0, 2, 0, "765");
    }

    private static void noneMade() {
        Check.sentence("IllegalStateException, when none was made");
        WriterDesk desk = Check.told(1, "0001", "07");
        Check.refused("none", IllegalStateException.class, () -> Check.told(1, "0001", "07"),
                other -> other.next(0, 0));
        Check.equal("steady", desk.isSteady(0), true);
        Check.throwing("isSteady makes none", IllegalStateException.class, () -> desk.next(0, 0));
        Check.edge(desk, 0, 0, 0, 0, "2");
        Check.throwing("no function", IllegalStateException.class, () -> desk.smallest(0));
        Check.throwing("none of a machine that is no function", IllegalStateException.class, () -> desk.next(0, 0));
        desk.smallest(1);
        Check.equal("one of a machine without outputs", desk.next(0, 0), WriterDesk.NONE);
    }

    private static void noSuchState() {
        Check.sentence("IllegalArgumentException, when there is no such state");
        Check.refusedFor("state", IllegalArgumentException.class, Boundary12Test::made, (desk, q) -> desk.next(q, 0),
                -1, 2, 40, Integer.MIN_VALUE, Integer.MAX_VALUE);
        Check.equal("the last one", made().next(1, 0), WriterDesk.NONE);
        WriterDesk desk = Known.forty();
        desk.smallest(0);
        Check.throwing("state 40 of 40", IllegalArgumentException.class, () -> desk.next(40, 0));
        Check.equal("state 39 of 40", desk.next(39, 0) < 40, true);
        desk.smallest(1);
        Check.throwingFor("state of one alone", IllegalArgumentException.class, q -> desk.next(q, 0), 1, 39);
    }

    private static void noSuchLetter() {
        Check.sentence("IllegalArgumentException, when there is no such [..] letter");
        Check.refusedFor("letter", IllegalArgumentException.class, Boundary12Test::made,
                (desk, letter) -> desk.next(0, letter), -1, 3, Integer.MIN_VALUE, Integer.MAX_VALUE);
        Check.refusedFor("letter of the last state", IllegalArgumentException.class, Boundary12Test::made,
                (desk, letter) -> desk.next(1, letter), -1, 3);
        Check.equal("letter 0", made().next(0, 0), 1);
        Check.equal("letter 2", made().next(1, 2), 0);
    }
}
