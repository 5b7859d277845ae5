/** machine. */
public final class Promise02Test {
    private Promise02Test() {
    }

    public static void main(String[] args) {
        makesAnew();
        hasSoManyStates();
        refusesWrongOnes();
        Check.finish();
    }

    private static WriterDesk told() {
        WriterDesk desk = new WriterDesk();
        desk.machine(2, 2);
        Check.edge(desk, 2, 0, 0, 1, "1");
        Check.last(desk, 2, 1, "2");
        Check.first(desk, 2, "3");
        Check.edge(desk, 3, 0, 1, 0, "5");
        Check.last(desk, 3, 0, "6");
        return desk;
    }

    private static void makesAnew() {
        WriterDesk desk = told();
        Check.equal("smallest", desk.smallest(2), 2);
        String made = Check.made(desk);
        Check.read(desk, 2, "0", 0);
        Check.result("read before", desk, "312");
        desk.machine(2, 2);
        Check.result("the result stays", desk, "312");
        Check.equal("edges of the others stay", desk.count(1), 1);
        Check.equal("no final words", desk.useful(2), 0);
        Check.equal("the smallest machine stays", Check.made(desk), made);
        Check.last(desk, 2, 0, "");
        Check.last(desk, 2, 1, "");
        Check.equal("no edges", desk.useful(2), 1);
        Check.equal("read", Check.read(desk, 2, "", 0), 1);
        Check.result("an empty first word", desk, "");
        Check.equal("the next edge is the first", Check.edge(desk, 2, 0, 0, 1, "1"), 0);
        Check.equal("another machine", Check.read(desk, 3, "1", 0), 1);
        Check.result("another machine", desk, "56");
    }

    private static void hasSoManyStates() {
        WriterDesk desk = new WriterDesk();
        for (int m = 0; m < 6; m++) {
            for (int states = 1; states <= 6; states++) {
                int machine = m;
                int end = states;
                desk.machine(m, states);
                Check.last(desk, m, states - 1, "");
                Check.throwing("state " + end, IllegalArgumentException.class, () -> desk.last(machine, end, 0, 0));
            }
        }
    }

    private static void refusesWrongOnes() {
        WriterDesk desk = told();
        int[] wrongStates = {0, 7, -1, Integer.MIN_VALUE, Integer.MAX_VALUE};
        for (int states : wrongStates) {
            Check.throwing("states " + states, IllegalArgumentException.class, () -> desk.machine(2, states));
        }
        int[] wrongMachines = {-1, 6, Integer.MIN_VALUE, Integer.MAX_VALUE};
        for (int m : wrongMachines) {
            Check.throwing("machine " + m, IndexOutOfBoundsException.class, () -> desk.machine(m, 1));
            Check.throwing("machine first " + m, IndexOutOfBoundsException.class, () -> desk.machine(m, 0));
        }
        Check.equal("all stays", Check.read(desk, 2, "0", 0), 1);
        Check.result("all stays", desk, "312");
        Check.equal("edges stay", desk.count(1), 2);
    }
}
