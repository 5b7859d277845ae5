/** The boundary cases of promise 9, isSame. */
public final class Boundary09Test {
    /** Reads all words. */
    private static final String ALL = "000 010 020";

    private Boundary09Test() {
    }

    public static void main(String[] args) {
        whether();
        withItself();
        firstWord();
        longWords();
        empty();
        noFunction();
        Check.finish();
    }

    private static WriterDesk two(String edges, String ends, String otherEdges, String otherEnds) {
        WriterDesk desk = Check.told(6, edges, ends);
        return Check.tell(desk, 1, 6, otherEdges, otherEnds);
    }

    private static void apart(String what, WriterDesk desk, String word) {
        Check.equal(what, desk.isSame(0, 1), false);
        Check.result(what, desk, word);
        Check.equal(what + ", turned", desk.isSame(1, 0), false);
        Check.result(what + ", turned", desk, word);
    }

    private static void same(String what, WriterDesk desk) {
        Check.equal(what, desk.isSame(0, 1), true);
        Check.result(what, desk, "");
        Check.equal(what + ", turned", desk.isSame(1, 0), true);
        Check.result(what + ", turned", desk, "");
    }

    private static void whether() {
        Check.sentence("Whether two functions are the same");
        same("no outputs", two("0011", "", "", ""));
        apart("one has an output", two("", "0", "", ""), "");
        same("an empty output each", two("", "0", "", "0"));
        apart("another output", two("", "0", "", "00"), "");
        same("the same signs, earlier and later", two("00112 1023", "245", "0011 102234", "25"));
        apart("the last sign is another", two("00112 1023", "245", "0011 102234", "26"), "00");
        apart("the last sign is not there", two("00112 1023", "245", "0011 102234", "2"), "00");
        WriterDesk desk = two("000", "07", "0007", "0");
        Check.first(desk, 1, "7");
        apart("first words count", desk, "0");
        Check.tell(desk, 1, 1, "000", "0");
        Check.first(desk, 1, "7");
        same("first words count for final words", desk);
    }

    private static void withItself() {
        Check.sentence("Whether two functions are the same (a machine and itself)");
        WriterDesk desk = two("0011 1022", "23", "", "");
        for (int m = 0; m < 6; m++) {
            Check.equal("machine " + m, desk.isSame(m, m), true);
            Check.result("machine " + m, desk, "");
        }
        Check.edge(desk, 3, 0, 0, 0, "");
        Check.edge(desk, 3, 0, 0, 0, "1");
        Check.last(desk, 3, 0, "");
        Check.throwing("no function", IllegalStateException.class, () -> desk.isSame(3, 3));
    }

    private static void firstWord() {
        Check.sentence("the result is the first word that tells them apart");
        apart("one reads 1, the other one writes another word for 2", two("010 0203", "0", "0204", "0"), "1");
        apart("one reads 2, the other one writes another word for 1", two("020 0103", "0", "0104", "0"), "1");
        apart("one reads 2, the other one writes another word for 11",
                two("011 1123 020", "0 1 2", "011 1124", "0 1 2"), "2");
        apart("one reads 00, the other one writes another word for 2", two("001 102 022", "2", "0227", "2"), "2");
        apart("both read 0, one reads 00", two("001 102", "1 2", "001", "1"), "00");
        apart("both read 0, one reads 02, and the other one 01", two("001 122", "1 2", "001 112", "1 2"), "01");
    }

    private static void longWords() {
        Check.sentence("the result is the first word that tells them apart (a long one)");
        apart("31 letters", two(Known.ALL_UP_TO_THIRTY, "0 1 2 3 4 5", ALL, "0"), "1111121111011112111101111211112");
        apart("31 letters, another one", two("010 401 214 021 204 502 324 022 000 414 023 115 422 515 310 103 120 421"
                + " 305 321 111 024 520 015", "0 1 2 3 4 5", ALL, "0"), "2000010000200001000020000100002");
        apart("ten letters", two("001 102 203 304 405 500", "0 1 2 3 4 51", "001 102 203 304 405 501",
                "0 1 2 3 4 51"), "0000000000");
    }

    private static void empty() {
        Check.sentence("or empty");
        WriterDesk desk = two(ALL, "07", "000 010", "07");
        apart("one reads 2", desk, "2");
        Check.edge(desk, 1, 0, 2, 0, "");
        same("both read 2", desk);
        Check.read(desk, 0, "", 0);
        Check.result("a result", desk, "7");
        same("once more", desk);
    }

    private static WriterDesk withNone() {
        WriterDesk desk = two("000 0007", "0", "000", "07");
        Check.first(desk, 1, "5");
        return desk;
    }

    private static void noFunction() {
        Check.sentence("IllegalStateException, when one is no function.");
        Check.refused("the first one", IllegalStateException.class, Boundary09Test::withNone,
                desk -> desk.isSame(0, 1));
        Check.refused("the other one", IllegalStateException.class, Boundary09Test::withNone,
                desk -> desk.isSame(1, 0));
        Check.refused("both", IllegalStateException.class, Boundary09Test::withNone, desk -> desk.isSame(0, 0));
        Check.refused("one, the other has no outputs", IllegalStateException.class, Boundary09Test::withNone,
                desk -> desk.isSame(5, 0));
        Check.equal("none of both", withNone().isSame(1, 5), false);
    }
}
