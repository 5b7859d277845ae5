/** The boundary cases of promise 1, a new object. */
public final class Boundary01Test {
    private Boundary01Test() {
    }

    public static void main(String[] args) {
        oneState();
        noEdges();
        noFinalWord();
        emptyFirstWords();
        Check.finish();
    }

    private static void oneState() {
        Check.sentence("All machines have one state");
        WriterDesk desk = new WriterDesk();
        for (int m = 0; m < 6; m++) {
            int machine = m;
            desk.last(m, 0, 0, 0);
            Check.equal("state 0 of " + m, desk.useful(m), 1);
            Check.throwingFor("state of " + m, IllegalArgumentException.class, q -> desk.last(machine, q, 0, 0), -1, 1);
            Check.throwing("an edge to state 1 of " + m, IllegalArgumentException.class,
                    () -> desk.edge(machine, 0, 0, 1, 0, 0));
        }
        Check.throwing("no machine 6", IndexOutOfBoundsException.class, () -> desk.last(6, 0, 0, 0));
    }

    private static void noEdges() {
        Check.sentence("All machines have [..] no edges");
        WriterDesk desk = new WriterDesk();
        Check.equal("edges together", desk.count(1), 0);
        for (int m = 0; m < 6; m++) {
            desk.last(m, 0, 0, 0);
            for (int letter = 0; letter < 3; letter++) {
                Check.equal("machine " + m, desk.read(m, 1, letter, 0), 0);
            }
            for (int e = 0; e < 24; e++) {
                Check.equal("an edge of " + m, desk.edge(m, 0, 0, 0, 0, 0), e);
            }
        }
        Check.equal("all edges together", desk.count(1), 6 * 24);
    }

    private static void noFinalWord() {
        Check.sentence("All machines have [..] no final word");
        WriterDesk desk = new WriterDesk();
        for (int m = 0; m < 6; m++) {
            Check.equal("useful states of " + m, desk.useful(m), 0);
            Check.equal("outputs of " + m, desk.read(m, 0, 0, 0), 0);
            desk.last(m, 0, 0, 0);
            Check.equal("outputs of " + m + " with one", desk.read(m, 0, 0, 0), 1);
        }
    }

    private static void emptyFirstWords() {
        Check.sentence("first words are empty");
        WriterDesk desk = new WriterDesk();
        for (int m = 0; m < 6; m++) {
            desk.last(m, 0, 1, m);
            Check.reads("machine " + m, desk, m, "", "" + m);
            desk.first(m, 1, 7);
            Check.reads("machine " + m, desk, m, "", "7" + m);
        }
    }
}
