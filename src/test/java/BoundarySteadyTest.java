/**
 * The boundary cases of the document's terms: residuals, and which functions are steady. Residuals of a function that
 * is not steady grow without an end, and those of a steady one never come near n * n * g. So where n * n * g lies
 * exactly can be seen only where there are more than 3000 different ones at the very length for which the longest
 * residuals have n * n * g signs (UnsupportedOperationException), or one sign more (false).
 */
public final class BoundarySteadyTest {
    private BoundarySteadyTest() {
    }

    public static void main(String[] args) {
        residualsWithFirstWords();
        residualsWithoutWhatIsAlike();
        residualsOfWaysThatMeet();
        longResidualsOfWaysThatMeet();
        residualsOfOneWord();
        lengthByLength();
        longerThanTwelve();
        longerThanHundredAndEight();
        usefulStates();
        longestWordOfAnEdge();
        longestFirstWord();
        longestFinalWord();
        oneAtLeast();
        Check.finish();
    }

    private static void tooMany(String what, WriterDesk desk) {
        Check.equal(what + ": a function", desk.isFunction(0), true);
        Check.throwing(what, UnsupportedOperationException.class, () -> desk.isSteady(0));
    }

    private static void steady(String what, WriterDesk desk, boolean due) {
        Check.equal(what + ": a function", desk.isFunction(0), true);
        Check.equal(what, desk.isSteady(0), due);
    }

    private static void residualsWithFirstWords() {
        Check.sentence("RESIDUALS of two ways of reading one word [..] are what they have written (first words, too)");
        WriterDesk desk = Known.lastTwo("30", "20", "000");
        tooMany("12 of 12 signs", desk);
        Check.first(desk, 0, "777");
        tooMany("a first word, which both begin with", desk);
        Check.first(desk, 0, "30");
        tooMany("a first word like the rest", desk);
    }

    private static void residualsWithoutWhatIsAlike() {
        Check.sentence("without all that both begin with alike");
        steady("3 signs, none alike", Known.lastTwo("300", "200", ""), false);
        tooMany("3 signs, the first alike", Known.lastTwo("030", "020", ""));
        tooMany("3 signs, two alike", Known.lastTwo("003", "002", ""));
        steady("3 signs, the last alike, which does not count", Known.lastTwo("350", "250", ""), false);
        steady("one begins with the other", Known.lastTwo("21", "2", ""), false);
    }

    private static void residualsOfWaysThatMeet() {
        Check.sentence("without all that both begin with alike (till nothing is left)");
        steady("in turn 3 signs ahead", Check.told(5, "001123 002 103 204123 300456 400456", "0"), true);
        steady("always 1 sign ahead", Check.told(3, "00112 0021 10112 20221", "1 22"), true);
        steady("1 sign ahead", Check.told(3, "00111 0021 1011 2021 110 220", "0"), true);
        steady("1 sign more each time", Check.told(3, "00111 0021 10111 2021 110 220", "0"), false);
        steady("1 sign more each time, the other way", Check.told(3, "0011 00211 1011 20211 110 220", "0"), false);
    }

    /** What one way is ahead is written by the other one later, sign by sign. */
    private static void longResidualsOfWaysThatMeet() {
        Check.sentence("without all that both begin with alike (up to 45 signs, till nothing is left)");
        String[] edges = {"305000 202 000 425 501000 514 011 323000 104 112000 003000 224000 521 210000",
            "222 413011 524111 223111 122110 110 012 304101 120 021 215 325000 505 514",
            "013011 411000 222 515 303110 324011 214 412 100 425 110011 501",
            "312101 103110 000 513 502001 201000 320001 024 005101 415 404 505 411111"};
        String[] ends = {"400", "310", "5", "2"};
        for (int i = 0; i < edges.length; i++) {
            Check.equal("naive", Naive.steadiness(Naive.told(6, edges[i], ends[i])), "steady");
            steady("steady machine " + i, Check.told(6, edges[i], ends[i]), true);
        }
        String made = Check.madeInParts(() -> {
            WriterDesk desk = Check.told(6, edges[3], ends[3]);
            Check.equal("its smallest machine", desk.smallest(0), 26);
            return desk;
        });
        Check.equal("its smallest machine", made, Naive.smallest(Naive.told(6, edges[3], ends[3]), 1000));
    }

    private static void residualsOfOneWord() {
        Check.sentence("RESIDUALS of two ways of reading one word, each from state 0 to a state");
        steady("ways of two words grow", Check.told(3, "0011 0122 1011 2122", "1 2"), true);
        steady("ways of one word grow", Check.told(3, "0011 0022 1011 2022 110 220", "0"), false);
        steady("one way grows", Check.told(1, "000123", "0"), true);
        steady("no way", new WriterDesk(), true);
    }

    private static void lengthByLength() {
        Check.sentence("They are looked for length by length of the words.");
        steady("longer for length 8, too many for 11", Known.lastTwo("3", "20", ""), false);
        steady("longer for length 11, too many for 11", Known.lastTwo("3", "200", ""), false);
        tooMany("too many for length 11, longer for 12", Known.lastTwo("3", "20", "000"));
    }

    private static void longerThanTwelve() {
        Check.sentence("A function is STEADY, when no residuals are longer than n * n * g signs (2 * 2 * 3)");
        tooMany("11 signs, the left ones", Known.lastTwo("30", "2", "000"));
        tooMany("12 signs on both sides", Known.lastTwo("30", "20", "000"));
        steady("13 signs, the left ones", Known.lastTwo("300", "20", "000"), false);
        steady("13 signs, the right ones", Known.lastTwo("30", "200", "000"), false);
    }

    /**
     * Words end behind their last 2 by the states 1 to 4, and begin by state 5. Up to length 101 there are 2982
     * different ones, up to 102 there are 3012; the longest residuals have 6 signs more than the length.
     */
    private static WriterDesk sixStates(String one, String two) {
        return Check.told(6, "001" + one + " 0111 021" + two + " 005 015 025 1041 11200 203011 213101 304000 31410 4041"
                + " 505 515 520", "4");
    }

    private static void longerThanHundredAndEight() {
        Check.sentence("A function is STEADY, when no residuals are longer than n * n * g signs (6 * 6 * 3)");
        Check.equal("six useful states", sixStates("01", "20").useful(0), 6);
        tooMany("108 signs", sixStates("01", "20"));
        steady("109 signs", sixStates("01", "200"), false);
        steady("109 signs of another residual", sixStates("001", "20"), false);
    }

    private static void usefulStates() {
        Check.sentence("n being how many useful states there are");
        String edges = "020300 021200 0000 0101 1010 1111 ";
        steady("two of two", Check.told(2, edges, "1"), false);
        steady("two of six", Check.told(6, edges, "1"), false);
        steady("a dead end", Check.told(3, edges + "1020", "1"), false);
        steady("a state that is not come to", Check.told(3, edges + "2010", "1 2"), false);
        tooMany("three", Check.told(3, edges + "1020", "1 2"));
    }

    private static void longestWordOfAnEdge() {
        Check.sentence("g the length of the longest word of an edge");
        String later = " 1010 1111 2020 2121 221";
        steady("1 sign", Check.told(3, "0012 0023" + later, "1"), false);
        tooMany("3 signs of the first edge", Check.told(3, "001222 0023" + later, "1"));
        tooMany("3 signs of the second edge", Check.told(3, "0012 002333" + later, "1"));
        tooMany("3 signs of the last edge", Check.told(3, "0012 0023" + later + "777", "1"));
        steady("3 signs of an edge to a dead end", Check.told(4, "0012 0023" + later + " 013777", "1"), false);
        steady("3 signs of an edge from nowhere", Check.told(4, "0012 0023" + later + " 301777", "1"), false);
    }

    private static void longestFirstWord() {
        Check.sentence("g the length of the longest word of [..] first or final word (the first word)");
        WriterDesk desk = Known.lastTwo("30", "20", "");
        steady("none", desk, false);
        Check.first(desk, 0, "44");
        steady("2 signs, as many as an edge has", desk, false);
        Check.first(desk, 0, "444");
        tooMany("3 signs", desk);
        Check.first(desk, 0, "4");
        steady("1 sign", desk, false);
    }

    private static void longestFinalWord() {
        Check.sentence("g the length of the longest word of [..] first or final word (final words)");
        steady("none", Known.lastTwo("30", "20", ""), false);
        steady("2 signs, as many as an edge has", Known.lastTwo("30", "20", "44"), false);
        tooMany("3 signs", Known.lastTwo("30", "20", "444"));
        WriterDesk desk = Known.lastTwo("30", "20", "");
        Check.last(desk, 0, 0, "444");
        Check.equal("of another state: no function", desk.isFunction(0), false);
        String edges = "02030 02120 0000 0101 1010 1111";
        steady("3 signs of a state that is not come to", Check.told(3, edges, "1 2444"), false);
        tooMany("3 signs of both", Check.told(3, edges, "1444 2444"));
    }

    /** All residuals are empty then, and none is longer than 0 signs either. */
    private static void oneAtLeast() {
        Check.sentence("(and 1 at least)");
        WriterDesk desk = Check.told(3, "001 002 101 202 110 220", "0");
        steady("no sign at all", desk, true);
        Check.equal("its smallest machine", desk.smallest(0), 2);
        desk = Check.told(3, "001 0021 1011 202 1101 220", "0");
        steady("1 sign, more each time", desk, false);
        steady("one state, no sign", Check.told(1, "000", "0"), true);
        steady("one state, 1 sign", Check.told(1, "0001", "0"), true);
        steady("no state", Check.told(1, "0001", ""), true);
    }
}
