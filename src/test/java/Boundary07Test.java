/** The boundary cases of promise 7, read. */
public final class Boundary07Test {
    private Boundary07Test() {
    }

    public static void main(String[] args) {
        howMany();
        lengths();
        bits();
        outputK();
        noSuchK();
        noSuchLength();
        letterThree();
        tooManyBehindAll();
        tooManyBehindSome();
        neverTooManyBehindNone();
        statesAreDifferent();
        waysAreNotCounted();
        onlyUsefulOnesAreCounted();
        Check.finish();
    }

    private static void howMany() {
        Check.sentence("How many different outputs the word [..] has");
        WriterDesk desk = Check.told(1, "0001 0102 0103 0201 0201", "0");
        Check.equal("none", Check.read(desk, 1, "", 0), 0);
        Check.equal("one", Check.read(desk, 0, "", 0), 1);
        Check.equal("one by an edge", Check.read(desk, 0, "0", 0), 1);
        Check.equal("one by an edge told twice", Check.read(desk, 0, "2", 0), 1);
        Check.equal("two", Check.read(desk, 0, "1", 0), 2);
        Check.equal("128", Check.read(desk, 0, "1111111", 0), 128);
        Check.equal("128 with others between", Check.read(desk, 0, "1011121110", 0), 128);
    }

    private static void lengths() {
        Check.sentence("the word of n letters (0 .. 10");
        WriterDesk desk = Check.told(1, "0004 0105 0206", "0");
        String letters = "0122101202";
        String signs = "4566545646";
        for (int n = 0; n <= 10; n++) {
            Check.reads(n + " letters", desk, 0, letters.substring(0, n), signs.substring(0, n));
        }
    }

    private static void bits() {
        Check.sentence("two bits of word each, the first one lowest)");
        WriterDesk desk = Check.told(1, "0000 0101 0202", "0");
        for (int bit = 0; bit < 20; bit++) {
            StringBuilder due = new StringBuilder("0000000000");
            due.setCharAt(bit / 2, (char) ('1' + bit % 2));
            Check.equal("bit " + bit, desk.read(0, 10, 1 << bit, 0), 1);
            Check.result("bit " + bit, desk, due.toString());
        }
        Check.equal("bits behind ten letters", desk.read(0, 10, -1 << 20, 0), 1);
        Check.result("bits behind ten letters", desk, "0000000000");
        Check.equal("bits behind one letter", desk.read(0, 1, -2, 0), 1);
        Check.result("bits behind one letter", desk, "2");
        Check.equal("bits behind no letter", desk.read(0, 0, -1, 0), 1);
        Check.result("bits behind no letter", desk, "");
    }

    private static void outputK() {
        Check.sentence("the result is output k of these (shorter ones first, then by their signs)");
        WriterDesk desk = Check.told(2, "0011 00107 00170 001 001071 001107 0010", "12");
        Check.reads("seven", desk, 0, "0", "2", "02", "12", "072", "702", "0712", "1072");
        Check.tell(desk, 0, 1, "000 0000 00000 000000", "0");
        Check.reads("by length alone", desk, 0, "000", "", "0", "00", "000", "0000", "00000", "000000", "0000000",
                "00000000", "000000000");
    }

    private static void noSuchK() {
        Check.sentence("or empty when there is no such k");
        WriterDesk desk = Check.told(1, "0005 0006", "0");
        int[] none = {-1, 2, 3, 200, Integer.MIN_VALUE, Integer.MAX_VALUE};
        for (int k : none) {
            Check.equal("output 1", Check.read(desk, 0, "0", 1), 2);
            Check.result("output 1", desk, "6");
            Check.equal("output " + k, Check.read(desk, 0, "0", k), 2);
            Check.result("output " + k, desk, "");
        }
        Check.read(desk, 0, "0", 0);
        Check.result("output 0", desk, "5");
        Check.equal("output 0 of none", Check.read(desk, 0, "1", 0), 0);
        Check.result("output 0 of none", desk, "");
    }

    private static WriterDesk withResult() {
        return Check.told(1, "0004", "05");
    }

    private static void noSuchLength() {
        Check.sentence("IllegalArgumentException, when n is none of these");
        Check.refusedFor("n", IllegalArgumentException.class, Boundary07Test::withResult,
                (desk, n) -> desk.read(0, n, 0, 0), -1, 11, 12, Integer.MIN_VALUE, Integer.MAX_VALUE);
        Check.equal("n 0", withResult().read(0, 0, 0, 0), 1);
        Check.equal("n 10", withResult().read(0, 10, 0, 0), 1);
    }

    private static void letterThree() {
        Check.sentence("IllegalArgumentException, when [..] a letter is 3");
        WriterDesk desk = Check.told(1, "0004 0105 0206", "0");
        for (int at = 0; at < 10; at++) {
            int place = at;
            Check.refused("3 at " + at, IllegalArgumentException.class, Boundary07Test::withResult,
                    other -> other.read(0, place + 1, 3 << 2 * place, 0));
            Check.throwing("3 at " + at + " of ten", IllegalArgumentException.class,
                    () -> desk.read(0, 10, 3 << 2 * place, 0));
            Check.equal("2 at " + at, desk.read(0, at + 1, 2 << 2 * at, 0), 1);
            Check.equal("3 behind the word", desk.read(0, at, 3 << 2 * at, 0), 1);
        }
        Check.throwing("of a machine without edges, too", IllegalArgumentException.class, () -> desk.read(1, 1, 3, 0));
        Check.throwing("behind letters that can't be read, too", IllegalArgumentException.class,
                () -> desk.read(2, 10, 3 << 18, 0));
    }

    /** 8 * 5 * 5 ways for 000 to state 3; one more to state 4, if that one has a final word. */
    private static WriterDesk ways(String ends) {
        WriterDesk desk = new WriterDesk();
        desk.machine(0, 5);
        for (int sign = 0; sign < 8; sign++) {
            desk.edge(0, 0, 0, 1, 1, sign);
        }
        for (int sign = 0; sign < 5; sign++) {
            desk.edge(0, 1, 0, 2, 1, sign);
            desk.edge(0, 2, 0, 3, 1, sign);
        }
        return addEnds(desk, "004 404 414", ends);
    }

    private static WriterDesk addEnds(WriterDesk desk, String edges, String ends) {
        for (String e : edges.split(" ")) {
            Check.edge(desk, 0, e.charAt(0) - '0', e.charAt(1) - '0', e.charAt(2) - '0', "");
        }
        for (String end : ends.split(" ")) {
            Check.last(desk, 0, end.charAt(0) - '0', "");
        }
        // Another machine's output, for a result to see.
        return Check.tell(desk, 5, 1, "", "07");
    }

    private static void tooManyBehindAll() {
        Check.sentence("UnsupportedOperationException, when behind some letters ([..] or all) there are more than 200");
        WriterDesk desk = ways("3");
        Check.equal("200", Check.read(desk, 0, "000", 199), 200);
        Check.result("200: the last one", desk, "744");
        Check.equal("200: no one more", Check.read(desk, 0, "000", 200), 200);
        Check.result("200: no one more", desk, "");
        Check.refused("201", UnsupportedOperationException.class, () -> ways("3 4"),
                other -> Check.read(other, 0, "000", 0));
        Check.equal("41 for a letter less", Check.read(ways("2 4"), 0, "00", 0), 41);
    }

    private static void tooManyBehindSome() {
        Check.sentence("UnsupportedOperationException, when behind some letters [..] there are more than 200");
        Check.equal("200, then none", Check.read(ways("3"), 0, "0001", 0), 0);
        Check.equal("200, then none, ten letters", Check.read(ways("3"), 0, "0001111111", 0), 0);
        Check.refused("201, then one", UnsupportedOperationException.class, () -> ways("3 4"),
                desk -> Check.read(desk, 0, "0001", 0));
        Check.refused("201, then none", UnsupportedOperationException.class, () -> ways("3 4"),
                desk -> Check.read(desk, 0, "0002", 0));
        Check.refused("201, then none, ten letters", UnsupportedOperationException.class, () -> ways("3 4"),
                desk -> Check.read(desk, 0, "0002222222", 0));
    }

    private static void neverTooManyBehindNone() {
        Check.sentence("when behind some letters (also 0, [..]) there are more than 200 (never behind 0: it is one)");
        Check.equal("no letters", Check.read(ways("0 3 4"), 0, "", 0), 1);
        Check.equal("no letters, no state", Check.read(new WriterDesk(), 0, "", 0), 0);
    }

    /** 4 * 5 * 5 words for 000, which 1 takes to two states; one more word in the first of the two, if told. */
    private static WriterDesk twoStates(String more, String ends) {
        WriterDesk desk = new WriterDesk();
        desk.machine(0, 6);
        for (int sign = 0; sign < 5; sign++) {
            desk.edge(0, 1, 0, 2, 1, sign);
            desk.edge(0, 2, 0, 3, 1, sign);
        }
        for (int sign = 0; sign < 4; sign++) {
            desk.edge(0, 0, 0, 1, 1, sign);
        }
        return addEnds(desk, "314 315" + more, ends);
    }

    private static void statesAreDifferent() {
        Check.sentence("more than 200 different ones of a state and what is written so far (another state is another)");
        String more = " 004 404 414";
        Check.equal("100 words in two states", Check.read(twoStates("", "4 5"), 0, "0001", 0), 100);
        Check.refused("100 words in two states, and one more", UnsupportedOperationException.class,
                () -> twoStates(more, "4 5"), desk -> Check.read(desk, 0, "0001", 0));
        Check.equal("100 words in one state, and one more", Check.read(twoStates(more, "4"), 0, "0001", 0), 101);
    }

    private static void waysAreNotCounted() {
        Check.sentence("more than 200 different ones of a state and what is written so far (ways alike are one)");
        WriterDesk desk = Check.told(2, "0001 0011 1001 1011", "0 1");
        Check.reads("1024 ways", desk, 0, "0000000000", "1111111111");
        desk = Check.told(1, "0001 00011", "0");
        Check.equal("1024 ways, eleven words", Check.read(desk, 0, "0000000000", 10), 11);
        Check.result("1024 ways, eleven words", desk, "11111111111111111111");
    }

    private static void onlyUsefulOnesAreCounted() {
        Check.sentence("more than 200 different ones of a state (only useful states count)");
        WriterDesk desk = Check.told(3, "", "0");
        for (int word = 0; word < 20; word++) {
            desk.edge(0, 1, 0, 1, 2, word);
        }
        Check.edge(desk, 0, 0, 0, 1, "");
        Check.edge(desk, 0, 0, 0, 0, "5");
        Check.reads("8000 ways to a dead end", desk, 0, "0000", "5555");
        Check.last(desk, 0, 1, "");
        Check.throwing("no dead end any more", UnsupportedOperationException.class,
                () -> Check.read(desk, 0, "0000", 0));
    }
}
