/** isSame. */
public final class Promise09Test {
    private Promise09Test() {
    }

    private static void differ(WriterDesk desk, String name, String word) {
        Check.equal(name, desk.isSame(0, 1), false);
        Check.result(name, desk, word);
        Check.equal(name + ", turned", desk.isSame(1, 0), false);
        Check.result(name + ", turned", desk, word);
    }

    private static void same(WriterDesk desk, String name) {
        Check.equal(name, desk.isSame(0, 1), true);
        Check.result(name, desk, "");
        Check.equal(name + ", turned", desk.isSame(1, 0), true);
        Check.result(name + ", turned", desk, "");
    }

    public static void main(String[] args) {
        knowsOtherShapes();
        knowsOtherDomains();
        findsTheFirstWord();
        findsLongWords();
        refusesWrongOnes();
        Check.finish();
    }

    private static void knowsOtherShapes() {
        WriterDesk desk = new WriterDesk();
        same(desk, "two that read nothing");
        Check.equal("one with itself", desk.isSame(2, 2), true);
        Check.edge(desk, 0, 0, 0, 0, "12");
        Check.last(desk, 0, 0, "1");
        desk.machine(1, 2);
        Check.first(desk, 1, "1");
        Check.edge(desk, 1, 0, 0, 1, "21");
        Check.edge(desk, 1, 1, 0, 0, "21");
        Check.last(desk, 1, 0, "");
        Check.last(desk, 1, 1, "");
        same(desk, "12 12 1 and 1 21 21");
        Check.last(desk, 1, 1, "1");
        differ(desk, "another final word", "0");
        Check.last(desk, 1, 1, "");
        Check.first(desk, 1, "2");
        differ(desk, "another first word", "");
    }

    private static void knowsOtherDomains() {
        WriterDesk desk = new WriterDesk();
        Check.edge(desk, 0, 0, 1, 0, "");
        differ0(desk);
        Check.edge(desk, 0, 0, 2, 0, "");
        Check.last(desk, 0, 0, "");
        desk.machine(1, 3);
        int[] to = {1, 2, 0};
        for (int q = 0; q < 3; q++) {
            Check.edge(desk, 1, q, 1, to[q], "");
            Check.edge(desk, 1, q, 2, q, "");
            Check.last(desk, 1, q, "");
        }
        same(desk, "three states for one");
        desk.last(1, 2, WriterDesk.NONE, 0);
        differ(desk, "one reads 11 not", "11");
        Check.edge(desk, 1, 0, 0, 2, "");
        differ(desk, "the other reads 01", "01");
        Check.last(desk, 1, 2, "");
        differ(desk, "one reads 0", "0");
    }

    private static void differ0(WriterDesk desk) {
        same(desk, "no final word");
        Check.last(desk, 0, 0, "");
        differ(desk, "one reads the empty word", "");
        desk.last(0, 0, WriterDesk.NONE, 0);
    }

    /** Of a word with other outputs and one that only one machine reads the earlier one counts. */
    private static void findsTheFirstWord() {
        WriterDesk desk = new WriterDesk();
        for (int m = 0; m < 2; m++) {
            Check.edge(desk, m, 0, 1, 0, "1");
            Check.last(desk, m, 0, "");
        }
        same(desk, "alike");
        Check.edge(desk, 0, 0, 2, 0, "1");
        differ(desk, "only one reads 2", "2");
        desk.machine(1, 1);
        Check.edge(desk, 1, 0, 1, 0, "2");
        Check.last(desk, 1, 0, "");
        differ(desk, "1 has other outputs", "1");
        Check.edge(desk, 1, 0, 0, 0, "1");
        differ(desk, "only one reads 0", "0");
        Check.edge(desk, 0, 0, 0, 0, "");
        differ(desk, "0 has other outputs", "0");
    }

    /** Rounds of five and of six states are told apart by all their states. */
    private static void findsLongWords() {
        WriterDesk desk = new WriterDesk();
        for (int m = 0; m < 2; m++) {
            int states = 5 + m;
            desk.machine(m, states);
            for (int q = 0; q < states; q++) {
                Check.edge(desk, m, q, 2, (q + 1) % states, "4");
                Check.last(desk, m, q, q == states - 1 ? "" : "5");
            }
        }
        differ(desk, "rounds, another final word", "2222");
        for (int m = 0; m < 2; m++) {
            for (int q = 0; q < 4 + m; q++) {
                desk.last(m, q, WriterDesk.NONE, 0);
            }
        }
        differ(desk, "rounds, only one reads it", "2222");
        desk.machine(1, 5);
        for (int q = 0; q < 5; q++) {
            Check.edge(desk, 1, q, 2, (q + 1) % 5, q == 2 ? "44" : q == 3 ? "" : "4");
        }
        Check.last(desk, 1, 4, "");
        same(desk, "a sign written earlier");
    }

    private static void refusesWrongOnes() {
        WriterDesk desk = new WriterDesk();
        Check.last(desk, 0, 0, "3");
        Check.edge(desk, 1, 0, 0, 0, "1");
        Check.edge(desk, 1, 0, 0, 0, "2");
        Check.last(desk, 1, 0, "");
        Check.read(desk, 0, "", 0);
        Check.throwing("the second is none", IllegalStateException.class, () -> desk.isSame(0, 1));
        Check.throwing("the first is none", IllegalStateException.class, () -> desk.isSame(1, 0));
        Check.throwing("both are none", IllegalStateException.class, () -> desk.isSame(1, 1));
        int[] wrongMachines = {-1, 6, Integer.MIN_VALUE, Integer.MAX_VALUE};
        for (int m : wrongMachines) {
            Check.throwing("first " + m, IndexOutOfBoundsException.class, () -> desk.isSame(m, 0));
            Check.throwing("second " + m, IndexOutOfBoundsException.class, () -> desk.isSame(0, m));
            Check.throwing("second first " + m, IndexOutOfBoundsException.class, () -> desk.isSame(1, m));
            Check.throwing("first first " + m, IndexOutOfBoundsException.class, () -> desk.isSame(m, 1));
        }
        Check.result("the result stays", desk, "3");
    }
}
