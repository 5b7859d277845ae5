/** isSteady. */
public final class Promise10Test {
    private Promise10Test() {
    }

    public static void main(String[] args) {
        knowsSteadyOnes();
        knowsUnsteadyOnes();
        letsWaysMeetAgain();
        stopsAtTooMany();
        stopsBehindThreeThousand();
        looksAtAllWords();
        countsOnlyUseful();
        refusesWrongOnes();
        Check.finish();
    }

    /** A guess that the letter behind the zeros settles, each zero writing what was told. */
    private static WriterDesk guessing(String one, String two) {
        WriterDesk desk = new WriterDesk();
        desk.machine(0, 3);
        Check.edge(desk, 0, 0, 0, 1, "1");
        Check.edge(desk, 0, 1, 0, 1, one);
        Check.edge(desk, 0, 1, 1, 0, "");
        Check.edge(desk, 0, 0, 0, 2, "2");
        Check.edge(desk, 0, 2, 0, 2, two);
        Check.edge(desk, 0, 2, 2, 0, "");
        Check.last(desk, 0, 0, "7");
        return desk;
    }

    private static void knowsSteadyOnes() {
        WriterDesk desk = new WriterDesk();
        Check.equal("no output", desk.isSteady(0), true);
        Check.first(desk, 0, "111");
        Check.equal("no output, a first word", desk.isSteady(0), true);
        Check.last(desk, 0, 0, "");
        Check.read(desk, 0, "", 0);
        Check.equal("one output", desk.isSteady(0), true);
        Check.result("the result stays", desk, "111");
        Check.equal("a guess without more signs", guessing("", "").isSteady(0), true);
    }

    private static void knowsUnsteadyOnes() {
        Check.equal("both write", guessing("1", "2").isSteady(0), false);
        Check.equal("both write alike", guessing("123", "123").isSteady(0), false);
        Check.equal("the first writes", guessing("1", "").isSteady(0), false);
        Check.equal("the second writes", guessing("", "2").isSteady(0), false);
    }

    /** One way is three signs ahead, then the other one; each time round they are alike once more. */
    private static void letsWaysMeetAgain() {
        WriterDesk desk = new WriterDesk();
        desk.machine(0, 6);
        Check.edge(desk, 0, 0, 0, 1, "123");
        Check.edge(desk, 0, 0, 0, 2, "");
        Check.edge(desk, 0, 1, 0, 3, "");
        Check.edge(desk, 0, 2, 0, 4, "123");
        Check.edge(desk, 0, 3, 0, 0, "456");
        Check.edge(desk, 0, 4, 0, 0, "456");
        Check.last(desk, 0, 0, "");
        Check.equal("ways that meet", desk.isSteady(0), true);
        desk.machine(0, 3);
        Check.edge(desk, 0, 0, 0, 1, "12");
        Check.edge(desk, 0, 0, 0, 2, "1");
        Check.edge(desk, 0, 1, 0, 1, "12");
        Check.edge(desk, 0, 2, 0, 2, "21");
        Check.last(desk, 0, 1, "");
        Check.last(desk, 0, 2, "2");
        Check.equal("one way always a sign ahead", desk.isSteady(0), true);
    }

    private static void stopsAtTooMany() {
        Check.equal("n * n * g is 8", Known.lastTwo("30", "20", "00").isSteady(0), false);
        Check.throwing("n * n * g is 12, and none longer for length 11", UnsupportedOperationException.class,
                () -> Known.lastTwo("30", "20", "000").isSteady(0));
        Check.equal("n * n * g is 12, and longer for length 11", Known.lastTwo("300", "200", "").isSteady(0), false);
        WriterDesk desk = Known.lastTwo("30", "20", "0");
        Check.equal("n * n * g is 8 still", desk.isSteady(0), false);
        Check.first(desk, 0, "444");
        Check.throwing("the first word counts, too", UnsupportedOperationException.class, () -> desk.isSteady(0));
        Check.first(desk, 0, "44");
        Check.equal("a shorter one", desk.isSteady(0), false);
        Check.read(desk, 0, "2", 0);
        Check.first(desk, 0, "444");
        Check.throwing("once more", UnsupportedOperationException.class, () -> desk.isSteady(0));
        Check.result("the result stays", desk, "44200");
    }

    private static WriterDesk told(int states, String edges, String end) {
        return Check.told(states, edges, "1" + end);
    }

    /** There are so many for some length, and longer residuals for the next one. */
    private static void stopsBehindThreeThousand() {
        Check.equal("3000 of them", told(5, Known.THREE_THOUSAND, "").isSteady(0), false);
        Check.throwing("3001 of them", UnsupportedOperationException.class,
                () -> told(5, Known.ONE_MORE, "110").isSteady(0));
    }

    /** Which word it is that makes n * n * g larger, 27 for 9, does not matter. */
    private static void looksAtAllWords() {
        String later = "1010 1111 2020 2121 221";
        Check.equal("all are short", told(3, "0012 0023 " + later, "").isSteady(0), false);
        Check.throwing("the first edge", UnsupportedOperationException.class,
                () -> told(3, "001222 0023 " + later, "").isSteady(0));
        Check.throwing("the last edge", UnsupportedOperationException.class,
                () -> told(3, "0012 0023 " + later + "777", "").isSteady(0));
        Check.throwing("a final word", UnsupportedOperationException.class,
                () -> told(3, "0012 0023 " + later, "777").isSteady(0));
        WriterDesk desk = told(3, "0012 0023 " + later, "");
        Check.last(desk, 0, 0, "777");
        Check.throwing("the first state's final word", UnsupportedOperationException.class, () -> desk.isSteady(0));
    }

    /** States, edges and final words that are not useful make n * n * g, which is 8, no larger. */
    private static void countsOnlyUseful() {
        String edges = "02030 02120 0000 0101 1010 1111";
        Check.equal("all are useful", told(4, edges, "").isSteady(0), false);
        Check.equal("an edge to a dead end", told(4, edges + " 022777", "").isSteady(0), false);
        Check.equal("an edge from nowhere", told(4, edges + " 300777", "").isSteady(0), false);
        WriterDesk desk = told(4, edges, "");
        Check.last(desk, 0, 3, "777");
        Check.equal("a final word never come to", desk.isSteady(0), false);
        Check.last(desk, 0, 1, "777");
        Check.throwing("one that is come to", UnsupportedOperationException.class, () -> desk.isSteady(0));
    }

    private static void refusesWrongOnes() {
        WriterDesk desk = new WriterDesk();
        Check.edge(desk, 0, 0, 0, 0, "1");
        Check.edge(desk, 0, 0, 0, 0, "2");
        Check.last(desk, 0, 0, "");
        Check.throwing("no function", IllegalStateException.class, () -> desk.isSteady(0));
        int[] wrongMachines = {-1, 6, Integer.MIN_VALUE, Integer.MAX_VALUE};
        for (int m : wrongMachines) {
            Check.throwing("machine " + m, IndexOutOfBoundsException.class, () -> desk.isSteady(m));
        }
    }
}
