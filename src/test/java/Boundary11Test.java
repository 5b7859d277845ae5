import java.util.function.Consumer;

/** The boundary cases of promise 11, smallest. What the smallest machine is has its cases in BoundarySmallestTest. */
public final class Boundary11Test {
    private static final String TOO_MANY = "02030 02120 0000 0101 1010 1111";
    private static final Consumer<WriterDesk> SMALLEST_OF_0 = desk -> desk.smallest(0);

    private Boundary11Test() {
    }

    public static void main(String[] args) {
        howMany();
        noFunction();
        notSteady();
        tooManyAsForSteady();
        fortyStates();
        fortyOneStates();
        theOneMadeBefore();
        anotherOne();
        Check.finish();
    }

    private static void howMany() {
        Check.sentence("Makes the smallest machine: how many states it has.");
        Check.equal("no output", new WriterDesk().smallest(0), 1);
        WriterDesk desk = new WriterDesk();
        for (int states = 1; states <= 6; states++) {
            desk.machine(0, states);
            for (int q = 1; q < states; q++) {
                Check.edge(desk, 0, q - 1, 1, q, "");
            }
            Check.last(desk, 0, states - 1, "3");
            Check.equal(states + " in a row", desk.smallest(0), states);
            Check.equal(states + " in a row", desk.count(2), states);
        }
        Check.equal("more than there were", Check.told(3, "000 010 011 102 112", "2").smallest(0), 4);
    }

    /** Machine 1 has a smallest machine of two states, which is made already. */
    private static WriterDesk withOneMade(int states, String edges, String ends) {
        WriterDesk desk = Check.told(states, edges, ends);
        Check.tell(desk, 1, 2, "0015 1116", "14");
        desk.smallest(1);
        return desk;
    }

    /** Machine 1 has an output, for a result to see. */
    private static WriterDesk withOutput(WriterDesk desk) {
        return Check.tell(desk, 1, 1, "", "07");
    }

    private static void noFunction() {
        Check.sentence("IllegalStateException, when m is no function");
        Check.refused("none", IllegalStateException.class, () -> withOneMade(1, "000 0001", "0"), SMALLEST_OF_0);
        Check.refused("none, nothing made", IllegalStateException.class,
                () -> withOutput(Check.told(1, "000 0001", "0")), SMALLEST_OF_0);
        Check.equal("one", withOneMade(1, "0001 0001", "0").smallest(0), 1);
        Check.equal("none, but no word has an output", withOneMade(1, "000 0001", "").smallest(0), 1);
    }

    private static void notSteady() {
        Check.sentence("IllegalStateException, when m is [..] not steady");
        Check.equal("steady", withOneMade(4, "0011 0022 101 202 113 223", "3").smallest(0), 3);
        Check.refused("not steady", IllegalStateException.class,
                () -> withOneMade(4, "0011 0022 101 2022 113 223", "3"), SMALLEST_OF_0);
        Check.refused("not steady for length 11, where there are 4096", IllegalStateException.class,
                () -> withOneMade(2, "02030 021200 0000 0101 1010 1111", "1"), SMALLEST_OF_0);
    }

    private static void tooManyAsForSteady() {
        Check.sentence("UnsupportedOperationException as for isSteady()");
        Check.refused("4096", UnsupportedOperationException.class, () -> withOneMade(2, TOO_MANY, "1444"),
                SMALLEST_OF_0);
        Check.refused("3001", UnsupportedOperationException.class,
                () -> withOneMade(5, Known.ONE_MORE, "1110"), SMALLEST_OF_0);
        Check.refused("3000, then longer ones", IllegalStateException.class,
                () -> withOneMade(5, Known.THREE_THOUSAND, "1"), SMALLEST_OF_0);
    }

    private static void fortyStates() {
        Check.sentence("or when it would have more than 40 states (40 of them)");
        WriterDesk desk = Known.forty();
        Check.equal("40 states", desk.smallest(0), 40);
        Check.equal("40 states", desk.count(2), 40);
        Check.equal("all of them", Check.made(desk), Known.fortyMade());
    }

    private static void fortyOneStates() {
        Check.sentence("UnsupportedOperationException [..] when it would have more than 40 states");
        Check.equal("41 states", Naive.statesOf(Naive.smallest(Naive.told(6, Known.FORTY_ONE, "3"), 1000)), 41);
        Check.equal("steady", Known.fortyOne().isSteady(0), true);
        Check.refused("41 states", UnsupportedOperationException.class, () -> withOutput(Known.fortyOne()),
                SMALLEST_OF_0);
        WriterDesk desk = Known.fortyOne();
        Check.throwing("41 states", UnsupportedOperationException.class, () -> desk.smallest(0));
        Check.equal("none was made", desk.count(2), 0);
        Check.throwing("none was made", IllegalStateException.class, () -> desk.ends(WriterDesk.NONE));
    }

    private static void theOneMadeBefore() {
        Check.sentence("(the one made before stays then)");
        WriterDesk desk = withOneMade(6, Known.FORTY_ONE, "3");
        Check.throwing("41 states", UnsupportedOperationException.class, () -> desk.smallest(0));
        Check.equal("its states", desk.count(2), 2);
        Check.equal("all of it", Check.made(desk), "5|1: - - -|- 1:6 - .4");
        Check.refused("twice", UnsupportedOperationException.class, () -> desk, SMALLEST_OF_0);
        WriterDesk full = Known.forty();
        full.smallest(0);
        Check.tell(full, 0, 6, Known.FORTY_ONE, "3");
        Check.throwing("41 states behind 40", UnsupportedOperationException.class, () -> full.smallest(0));
        Check.equal("the 40 stay", Check.made(full), Known.fortyMade());
    }

    private static void anotherOne() {
        Check.sentence("Makes the smallest machine (in the place of the one made before)");
        WriterDesk desk = withOneMade(1, "0001", "02");
        Check.equal("two states", Check.made(desk), "5|1: - - -|- 1:6 - .4");
        desk.smallest(0);
        Check.equal("one state", Check.made(desk), "|0:1 - - .2");
        Check.last(desk, 0, 0, "3");
        Check.equal("the machine changes, this one stays", Check.made(desk), "|0:1 - - .2");
        desk.smallest(2);
        Check.equal("no output", Check.made(desk), "|- - - -");
        desk.smallest(0);
        Check.equal("changed", Check.made(desk), "|0:1 - - .3");
        Check.throwing("state 1 is not there any more", IllegalArgumentException.class, () -> desk.ends(1));
    }
}
