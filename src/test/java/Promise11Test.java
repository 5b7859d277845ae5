/** smallest. */
public final class Promise11Test {
    private Promise11Test() {
    }

    private static void makes(WriterDesk desk, String name, String due) {
        Check.equal(name, desk.smallest(0), Naive.statesOf(due));
        Check.equal(name + ": count(2)", desk.count(2), Naive.statesOf(due));
        Check.equal(name + ": the machine", Check.made(desk), due);
    }

    public static void main(String[] args) {
        makesNone();
        writesEarly();
        mergesStates();
        settlesGuesses();
        numbersStates();
        endsAtFortyStates();
        refusesWrongOnes();
        Check.finish();
    }

    private static void makesNone() {
        WriterDesk desk = new WriterDesk();
        makes(desk, "no output", "|- - - -");
        Check.first(desk, 0, "123");
        Check.edge(desk, 0, 0, 1, 0, "4");
        makes(desk, "no output, though it has words", "|- - - -");
        Check.last(desk, 0, 0, "5");
        makes(desk, "outputs", "123|- 0:4 - .5");
        desk.last(0, 0, WriterDesk.NONE, 0);
        makes(desk, "none once more", "|- - - -");
    }

    private static void writesEarly() {
        WriterDesk desk = new WriterDesk();
        desk.machine(0, 6);
        Check.first(desk, 0, "7");
        for (int q = 0; q < 5; q++) {
            Check.edge(desk, 0, q, q % 3, q + 1, "123");
        }
        Check.last(desk, 0, 5, "456");
        makes(desk, "one word", "7123123123123123456|1: - - -|- 2: - -|- - 3: -|4: - - -|- 5: - -|- - - .");
        Check.edge(desk, 0, 2, 0, 4, "12");
        makes(desk, "another way", "712312312|1: - - -|- 2: - -|3:123456 - 4:3123123456 -"
                + "|- 5: - -|3: - - -|- - - .");
        desk.machine(0, 2);
        Check.edge(desk, 0, 0, 0, 0, "11");
        Check.edge(desk, 0, 0, 1, 1, "1");
        Check.edge(desk, 0, 1, 1, 0, "");
        Check.last(desk, 0, 0, "1");
        makes(desk, "always 1 ahead", "1|0:11 1:1 - .|- 0: - -");
    }

    private static void mergesStates() {
        WriterDesk desk = new WriterDesk();
        desk.machine(0, 3);
        int[] to = {1, 2, 0};
        for (int q = 0; q < 3; q++) {
            Check.edge(desk, 0, q, 1, to[q], "5");
            Check.last(desk, 0, q, "6");
        }
        makes(desk, "three alike", "|- 0:5 - .6");
        Check.last(desk, 0, 2, "7");
        makes(desk, "another final word", "|- 1:5 - .6|- 2:5 - .6|- 0:5 - .7");
        Check.last(desk, 0, 2, "6");
        Check.edge(desk, 0, 2, 2, 2, "");
        makes(desk, "an edge more", "|- 1:5 - .6|- 2:5 - .6|- 0:5 2: .6");
        desk.machine(0, 3);
        Check.edge(desk, 0, 0, 0, 1, "1");
        Check.edge(desk, 0, 0, 1, 2, "12");
        Check.edge(desk, 0, 1, 2, 1, "23");
        Check.edge(desk, 0, 2, 2, 2, "32");
        Check.last(desk, 0, 1, "2");
        Check.last(desk, 0, 2, "");
        makes(desk, "two that write the same, not as early", "12|1: 1: - -|- - 1:32 .");
    }

    private static void settlesGuesses() {
        WriterDesk desk = new WriterDesk();
        desk.machine(0, 4);
        Check.edge(desk, 0, 0, 0, 1, "12");
        Check.edge(desk, 0, 0, 0, 2, "13");
        Check.edge(desk, 0, 1, 1, 3, "4");
        Check.edge(desk, 0, 2, 2, 3, "5");
        Check.last(desk, 0, 3, "");
        Check.last(desk, 0, 2, "6");
        makes(desk, "a guess", "1|1: - - -|- 2:24 2:35 .36|- - - .");
        Check.edge(desk, 0, 3, 0, 0, "7");
        makes(desk, "a guess and a way round", "1|1: - - -|- 2:24 2:35 .36|0:71 - - .");
    }

    /** 2 comes to state 2 before 00 comes to the one that was told first. */
    private static void numbersStates() {
        WriterDesk desk = new WriterDesk();
        desk.machine(0, 4);
        Check.edge(desk, 0, 0, 2, 3, "1");
        Check.edge(desk, 0, 0, 0, 2, "2");
        Check.edge(desk, 0, 2, 0, 1, "3");
        Check.last(desk, 0, 1, "4");
        Check.edge(desk, 0, 3, 1, 3, "5");
        Check.last(desk, 0, 3, "6");
        makes(desk, "numbers", "|1:234 - 2:1 -|3: - - -|- 2:5 - .6|- - - .");
    }

    private static void endsAtFortyStates() {
        WriterDesk desk = Known.forty();
        Check.equal("40 states", desk.smallest(0), 40);
        Check.throwing("no state 40", IllegalArgumentException.class, () -> desk.ends(40));
        Check.tell(desk, 0, 6, Known.FORTY_ONE, "3");
        Check.equal("steady", desk.isSteady(0), true);
        Check.throwing("41 states", UnsupportedOperationException.class, () -> desk.smallest(0));
        Check.equal("count(2) stays", desk.count(2), 40);
        Check.equal("the one made before stays", Check.made(desk), Known.fortyMade());
        WriterDesk other = Known.fortyOne();
        Check.throwing("41 states at first", UnsupportedOperationException.class, () -> other.smallest(0));
        Check.equal("none was made", other.count(2), 0);
        Check.throwing("none was made", IllegalStateException.class, () -> other.next(0, 0));
    }

    private static void refusesWrongOnes() {
        WriterDesk desk = new WriterDesk();
        Check.last(desk, 0, 0, "3");
        desk.smallest(0);
        desk.machine(1, 1);
        Check.edge(desk, 1, 0, 0, 0, "1");
        Check.edge(desk, 1, 0, 0, 0, "2");
        Check.last(desk, 1, 0, "");
        Check.read(desk, 0, "", 0);
        Check.throwing("no function", IllegalStateException.class, () -> desk.smallest(1));
        desk.machine(2, 2);
        Check.edge(desk, 2, 0, 2, 0, "30");
        Check.edge(desk, 2, 0, 2, 1, "20");
        for (int q = 0; q < 2; q++) {
            Check.edge(desk, 2, q, 0, q, "0");
            Check.edge(desk, 2, q, 1, q, "1");
        }
        Check.last(desk, 2, 1, "");
        Check.throwing("not steady", IllegalStateException.class, () -> desk.smallest(2));
        Check.last(desk, 2, 1, "000");
        Check.throwing("too many residuals", UnsupportedOperationException.class, () -> desk.smallest(2));
        int[] wrongMachines = {-1, 6, Integer.MIN_VALUE, Integer.MAX_VALUE};
        for (int m : wrongMachines) {
            Check.throwing("machine " + m, IndexOutOfBoundsException.class, () -> desk.smallest(m));
        }
        Check.result("the result stays", desk, "3");
        Check.equal("the one made before stays", Check.made(desk), "3|- - - .");
        Check.read(desk, 0, "", 0);
        desk.smallest(0);
        Check.result("the result stays when one is made", desk, "3");
    }
}
