/** The boundary cases of promise 8, isFunction. */
public final class Boundary08Test {
    private Boundary08Test() {
    }

    public static void main(String[] args) {
        whether();
        firstWord();
        longWords();
        empty();
        Check.finish();
    }

    private static void isNone(String what, WriterDesk desk, String word) {
        Check.equal(what, desk.isFunction(0), false);
        Check.result(what, desk, word);
    }

    private static void isOne(String what, WriterDesk desk) {
        Check.equal(what, desk.isFunction(0), true);
        Check.result(what, desk, "");
    }

    private static void whether() {
        Check.sentence("Whether it is a function");
        isOne("no output", new WriterDesk());
        isOne("an output for the empty word", Check.told(1, "", "0123"));
        isOne("two ways, both 12 3", Check.told(3, "00112 0021", "13 223"));
        isNone("two ways, 12 3 and 1 2", Check.told(3, "00112 0021", "13 22"), "0");
        isNone("two ways, 12 3 and 1 24", Check.told(3, "00112 0021", "13 224"), "0");
        isNone("two ways, 12 and 2 3", Check.told(3, "00112 0022", "1 23"), "0");
        isOne("two ways, 12 to a dead end", Check.told(3, "00112 0021", "13"));
        isOne("two ways that end by other letters", Check.told(4, "0011 0022 113 223", "3"));
    }

    private static void firstWord() {
        Check.sentence("the result is the first word that has two outputs");
        isNone("the only one", Check.told(3, "021 112 1127", "2"), "21");
        isNone("the shorter one", Check.told(3, "001 102 1027 022 0227", "2"), "2");
        isNone("the lower one, told later", Check.told(3, "011 112 1127 102 1027", "2"), "10");
        isNone("behind 0 only 2, behind 1 also 0", Check.told(5, "001 012 124 1247 204 2047", "4"), "02");
        isNone("ways that write 1 and 11: the rest counts", Check.told(4, "0011 00211 103 203", "3"), "00");
        isNone("ways that are alike for one letter only", Check.told(4, "0011 00211 1031 203 113 213", "3"), "01");
    }

    /** Ways that go round by 2 and by 3 states, or write 1 sign more now and then, differ late. */
    private static void longWords() {
        Check.sentence("the result is the first word that has two outputs (a long one)");
        isNone("six letters", Check.told(6, "0113 1123 2113 0133 3143 4153 5133", "21 52"), "111111");
        isNone("38 letters", Check.told(6, "40000 00000 20200 51100 312 50500 30300 4100 01300 2150 10400 40100 424000",
                "1000 4"), "11110001111001011100110110011101001111");
        isNone("38 letters, another one", Check.told(6, "00300 5000 11200 41100 000000 31400 5100 101000 2150 202000"
                + " 404000 020000 505000", "50"), "01111001011100110110011101001111001111");
    }

    private static void empty() {
        Check.sentence("or empty");
        WriterDesk desk = Check.told(1, "020 0207", "05");
        isNone("two outputs", desk, "2");
        Check.tell(desk, 0, 1, "020", "05");
        isOne("one each", desk);
        Check.equal("no letter", desk.count(0), 0);
        Check.read(desk, 0, "", 0);
        Check.result("a result", desk, "5");
        isOne("one each once more", desk);
        Check.throwingFor("machine", IndexOutOfBoundsException.class, m -> desk.isFunction(m), Check.NO_MACHINES);
    }
}
