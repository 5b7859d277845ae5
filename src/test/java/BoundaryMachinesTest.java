/** The boundary cases of the document's terms: machines, what is useful, functions, and the same ones. */
public final class BoundaryMachinesTest {
    private BoundaryMachinesTest() {
    }

    public static void main(String[] args) {
        machines();
        states();
        begins();
        edges();
        finalWords();
        firstWords();
        edgeForEachLetter();
        writesAll();
        outputs();
        useful();
        comesToByAllEdges();
        onlyUsefulCounts();
        functions();
        same();
        Check.finish();
    }

    private static void machines() {
        Check.sentence("MACHINES 0 .. 5");
        WriterDesk desk = new WriterDesk();
        for (int m = 0; m < 6; m++) {
            Check.tell(desk, m, 1 + m, "000" + m, "0");
        }
        for (int m = 0; m < 6; m++) {
            Check.reads("machine " + m, desk, m, "00", "" + m + m);
        }
        Check.throwingFor("machine", IndexOutOfBoundsException.class, m -> desk.machine(m, 1), Check.NO_MACHINES);
        Check.equal("edges of all six", desk.count(1), 6);
    }

    private static void states() {
        Check.sentence("each with STATES 0 .. n - 1");
        for (int n = 1; n <= 6; n++) {
            WriterDesk desk = new WriterDesk();
            int states = n;
            desk.machine(0, n);
            for (int q = 0; q < n; q++) {
                Check.edge(desk, 0, q, 1, (q + 1) % n, "");
                Check.last(desk, 0, q, "");
            }
            Check.equal(n + " states", desk.useful(0), n);
            Check.throwingFor("last for", IllegalArgumentException.class, q -> desk.last(0, q, 0, 0), -1, states);
            Check.throwingFor("edge from", IllegalArgumentException.class, q -> desk.edge(0, q, 0, 0, 0, 0), -1, n);
            Check.throwingFor("edge to", IllegalArgumentException.class, q -> desk.edge(0, 0, 0, q, 0, 0), -1, n);
        }
    }

    private static void begins() {
        Check.sentence("(state 0 is where it begins)");
        for (int q = 0; q < 6; q++) {
            WriterDesk desk = Check.told(6, "", q + "3");
            Check.equal("a final word of " + q, Check.read(desk, 0, "", 0), q == 0 ? 1 : 0);
            Check.result("a final word of " + q, desk, q == 0 ? "3" : "");
        }
    }

    private static void edges() {
        Check.sentence("up to 24 EDGES");
        WriterDesk desk = Check.told(1, "", "0");
        Check.reads("no edge", desk, 0, "0");
        for (int e = 0; e < 23; e++) {
            Check.equal("edge " + e, desk.edge(0, 0, e / 8, 0, 1, e), e);
        }
        Check.reads("23 edges", desk, 0, "2", "0", "1", "2", "3", "4", "5", "6");
        Check.equal("edge 23", desk.edge(0, 0, 2, 0, 1, 7), 23);
        Check.equal("24 edges", desk.count(1), 24);
        for (int letter = 0; letter < 3; letter++) {
            Check.reads("24 edges", desk, 0, "" + letter, "0", "1", "2", "3", "4", "5", "6", "7");
        }
        Check.throwing("one more", UnsupportedOperationException.class, () -> desk.edge(0, 0, 0, 0, 0, 0));
        Check.equal("24 edges still", desk.count(1), 24);
    }

    private static void finalWords() {
        Check.sentence("and for each state a FINAL word or none");
        String[] words = {"", "1", "22", "333", "7", ""};
        WriterDesk desk = Check.told(6, "001 012 023 124 215", "");
        String[] ways = {"", "0", "1", "2", "02", "11"};
        for (String way : ways) {
            Check.reads("none", desk, 0, way);
        }
        for (int q = 0; q < 6; q++) {
            Check.last(desk, 0, q, words[q]);
        }
        for (int q = 0; q < 6; q++) {
            Check.reads("all have one", desk, 0, ways[q], words[q]);
        }
        desk.last(0, 3, WriterDesk.NONE, 0);
        Check.reads("state 3 has none", desk, 0, "2");
        Check.reads("state 4 has one still", desk, 0, "02", "7");
    }

    private static void firstWords() {
        Check.sentence("It begins by writing its FIRST word.");
        WriterDesk desk = Check.told(1, "0006", "0");
        Check.reads("none", desk, 0, "", "");
        Check.reads("none", desk, 0, "0", "6");
        Check.first(desk, 0, "123");
        Check.reads("three signs", desk, 0, "", "123");
        Check.reads("three signs", desk, 0, "00", "12366");
        desk.last(0, 0, WriterDesk.NONE, 0);
        Check.reads("no final word", desk, 0, "");
    }

    private static void edgeForEachLetter() {
        Check.sentence("To read a word: an edge for each letter, one behind the other, to a state with a final word");
        WriterDesk desk = Check.told(6, "001 112 223 304 415", "5");
        Check.reads("all five edges", desk, 0, "01201", "");
        String[] none = {"", "0", "0120", "012010", "012011", "1201", "01202", "00201", "11201"};
        for (String word : none) {
            Check.reads("none", desk, 0, word);
        }
        Check.last(desk, 0, 4, "");
        Check.reads("one edge less", desk, 0, "0120", "");
    }

    private static void writesAll() {
        Check.sentence("it writes its first word, those of the edges, and the final word");
        WriterDesk desk = Check.told(1, "000123 010456 020700", "0765");
        Check.first(desk, 0, "321");
        Check.reads("no edges", desk, 0, "", "321765");
        Check.reads("one edge", desk, 0, "2", "321700765");
        Check.reads("ten edges: the longest output", desk, 0, "0120120120",
                "321123456700123456700123456700123765");
        Check.equal("36 signs", Check.read(desk, 0, "0120120120", 0), 1);
        Check.equal("36 signs", desk.count(0), 36);
        Check.tell(desk, 0, 1, "000 010", "0");
        Check.reads("nothing but empty words", desk, 0, "0101010101", "");
    }

    private static void outputs() {
        Check.sentence("All it can write for a word are the word's OUTPUTS.");
        WriterDesk desk = Check.told(3, "001 102", "2");
        Check.reads("no way", desk, 0, "1");
        Check.reads("one way", desk, 0, "00", "");
        Check.edge(desk, 0, 0, 0, 0, "");
        Check.edge(desk, 0, 2, 0, 2, "");
        Check.reads("many ways, the same output", desk, 0, "00000", "");
        Check.edge(desk, 0, 2, 0, 2, "1");
        Check.reads("many ways", desk, 0, "00000", "", "1", "11", "111");
    }

    private static void useful() {
        Check.sentence("A state is USEFUL, if it can be come to from state 0, and from it a state with a final word");
        WriterDesk desk = Check.told(6, "001 112 223 304 415", "");
        Check.equal("no final word", desk.useful(0), 0);
        for (int q = 0; q < 6; q++) {
            Check.last(desk, 0, q, "");
            Check.equal("a final word of " + q + " alone", desk.useful(0), q + 1);
            desk.last(0, q, WriterDesk.NONE, 0);
        }
        Check.last(desk, 0, 5, "");
        Check.equal("all six are needed", desk.useful(0), 6);
        Check.tell(desk, 0, 6, "001 112 304 415", "2 5");
        Check.equal("a way without its third edge", desk.useful(0), 3);
        Check.tell(desk, 0, 6, "100 211 322 403 514", "0");
        Check.equal("state 0 alone, no edge needed", desk.useful(0), 1);
        Check.tell(desk, 0, 6, "100 211 322 403 514", "5");
        Check.equal("only come from, not come to", desk.useful(0), 0);
        Check.tell(desk, 0, 6, "001 102 203 304 405", "0");
        Check.equal("only come to, no way on", desk.useful(0), 1);
    }

    /** Ways over five edges that were told in the order that makes a single look over all edges miss them. */
    private static void comesToByAllEdges() {
        Check.sentence("A state is USEFUL, if it can be come to from state 0 (by edges told in any order)");
        Check.equal("the first edge last", Check.told(6, "405 304 203 102 001", "5").useful(0), 6);
        Check.equal("the first edge first", Check.told(6, "001 102 203 304 405", "5").useful(0), 6);
        Check.equal("and back", Check.told(6, "001 102 203 304 405 514 413 312 211 110", "0").useful(0), 6);
        Check.equal("and back, told last first", Check.told(6, "110 211 312 413 514 405 304 203 102 001", "0")
                .useful(0), 6);
    }

    private static void onlyUsefulCounts() {
        Check.sentence("only useful states, and edges between them, count in all that follows");
        String two = "001 0021 0022 102";
        WriterDesk desk = Check.told(3, two, "1");
        Check.equal("two edges to a dead end", desk.isFunction(0), true);
        Check.equal("it is the same as", Check.tell(desk, 1, 2, "001", "1").isSame(0, 1), true);
        Check.equal("smallest", desk.smallest(0), 2);
        Check.equal("the dead end is not there", Check.made(desk), "|1: - - -|- - - .");
        Check.tell(desk, 0, 3, two, "1 2");
        Check.equal("no dead end any more", desk.isFunction(0), false);
        Check.result("no dead end any more", desk, "0");
        Check.tell(desk, 0, 3, "001 211 212 2017", "1");
        Check.equal("edges from a state that is not come to", desk.useful(0), 2);
        Check.equal("it is the same as", desk.isSame(0, 1), true);
        Check.tell(desk, 0, 3, "001 002 211 212 2017", "1");
        Check.equal("that state is come to", desk.isSame(0, 1), false);
        Check.result("that state is come to", desk, "00");
    }

    private static void functions() {
        Check.sentence("A machine is a FUNCTION, if no word has two different outputs.");
        Check.equal("no word has one", new WriterDesk().isFunction(0), true);
        Check.equal("one word has one", Check.told(1, "", "0").isFunction(0), true);
        Check.equal("one word has one twice", Check.told(3, "001 002", "1 2").isFunction(0), true);
        Check.equal("one word has two", Check.told(3, "001 002", "1 20").isFunction(0), false);
        Check.equal("written earlier or later", Check.told(3, "001123 0021", "145 2234").isFunction(0), false);
        Check.equal("written earlier or later, alike", Check.told(3, "001123 0021", "14 2234").isFunction(0), true);
        Check.equal("two words have one each", Check.told(3, "0011 0122", "1 2").isFunction(0), true);
    }

    private static void same() {
        Check.sentence("Two functions are THE SAME, if they have outputs for the same words, and the same ones.");
        String[] edges = {"", "", "0101", "0101", "0102", "010"};
        String[] ends = {"", "0", "0", "", "0", "0"};
        WriterDesk desk = new WriterDesk();
        for (int m = 0; m < 6; m++) {
            Check.tell(desk, m, 1, edges[m], ends[m]);
        }
        String[] apart = {"- e e - e e", "e - 1 e 1 1", "e 1 - e 1 1", "- e e - e e", "e 1 1 e - 1", "e 1 1 e 1 -"};
        for (int m = 0; m < 6; m++) {
            for (int other = 0; other < 6; other++) {
                String due = apart[m].split(" ")[other];
                Check.equal(m + " and " + other, desk.isSame(m, other), due.equals("-"));
                Check.result(m + " and " + other, desk, due.equals("1") ? "1" : "");
            }
        }
    }
}
