/** The boundary cases of the document's terms: what the smallest machine is. */
public final class BoundarySmallestTest {
    private BoundarySmallestTest() {
    }

    public static void main(String[] args) {
        oneEdgeByEachLetter();
        noStateThatIsNotUseful();
        noOutput();
        oneAndTheSameSign();
        wordsThatEnd();
        firstWord();
        longestFirstWord();
        longestWords();
        asFewStatesAsCanBe();
        numbers();
        Check.finish();
    }

    private static void makes(String what, WriterDesk desk, String due) {
        Check.equal(what + ": states", desk.smallest(0), Naive.statesOf(due));
        Check.equal(what, Check.made(desk), due);
    }

    private static void oneEdgeByEachLetter() {
        Check.sentence("THE SMALLEST MACHINE of a steady function has at most one edge from each state by each letter");
        makes("no edge", Check.told(1, "", "0"), "|- - - .");
        makes("one by each letter", Check.told(1, "0001 0102 0203", "0"), "|0:1 0:2 0:3 .");
        makes("one edge three times", Check.told(1, "0001 0001 0001", "0"), "|0:1 - - .");
        makes("two by one letter", Check.told(4, "0011 0022 1133 2233", "3"), "|1: - - -|- 2:13 2:23 -|- - - .");
        makes("five by one letter", Check.told(6, "0011 0022 0033 0044 0055 201 311 421 502", "1"),
                "|1: - - -|2: 3:3 3:4 .1|3:5 - - .2|- - - .");
    }

    private static void noStateThatIsNotUseful() {
        Check.sentence("no state that is not useful");
        String chain = "0010 1120 2230 3040 4150";
        makes("six of six are", Check.told(6, chain, "51"),
                "000001|1: - - -|- 2: - -|- - 3: -|4: - - -|- 5: - -|- - - .");
        makes("five of six are", Check.told(6, chain, "41"), "00001|1: - - -|- 2: - -|- - 3: -|4: - - -|- - - .");
        makes("one of six is", Check.told(6, "0010 0020 0030 0040 0050", "07"), "7|- - - .");
        makes("one that can't be come to", Check.told(2, "1001 1102", "07 1"), "7|- - - .");
        makes("one that leads nowhere", Check.told(2, "0011 0102", "07"), "|- 0:2 - .7");
    }

    private static void noOutput() {
        Check.sentence("(but it has one state, 0, without a final word and without edges, when no word has an output)");
        makes("a new machine", new WriterDesk(), "|- - - -");
        WriterDesk desk = Check.told(6, "0011 1122 2203 3014", "45 5");
        Check.first(desk, 0, "777");
        makes("six states, none useful", desk, "|- - - -");
        Check.throwing("no state 1", IllegalArgumentException.class, () -> desk.ends(1));
        Check.edge(desk, 0, 2, 0, 4, "");
        makes("one edge more", desk, "77712|1: - - -|- 2: - -|3:5 - 0:312 -|- - - .");
        desk.last(0, 4, WriterDesk.NONE, 0);
        makes("one final word less", desk, "|- - - -");
    }

    private static void oneAndTheSameSign() {
        Check.sentence("of no state begins what is written from there on [..] with one and the same sign");
        makes("all but one begin alike", Check.told(3, "001 10256 11257 12246", "2"),
                "|1: - - -|2:56 2:57 2:46 -|- - - .");
        makes("all begin alike", Check.told(3, "001 10256 11257 12256", "2"), "5|1: - - -|2:6 2:7 2:6 -|- - - .");
        makes("with two signs", Check.told(3, "001 10256 11256 122567", "2"), "56|1: - - -|2: 2: 2:7 -|- - - .");
        makes("one has no sign more", Check.told(3, "001 102567 11256 1225", "2"),
                "5|1: - - -|2:67 2:6 2: -|- - - .");
        makes("a sign from far behind", Check.told(6, "001 102 203 304 405 213", "51"),
                "1|1: - - -|2: - - -|3: 3: - -|4: - - -|5: - - -|- - - .");
        makes("all round", Check.told(2, "0011 1001", "0"), "|1:11 - - .|0: - - -");
        makes("all round, and a sign at the end", Check.told(2, "0011 1001", "01"), "1|1:11 - - .|0: - - -");
    }

    private static void wordsThatEnd() {
        Check.sentence("for all words that can be read to the end from there");
        makes("one ends at once, with no sign", Check.told(2, "0016 1015", "1"), "6|1: - - -|1:5 - - .");
        makes("with the same sign", Check.told(2, "0016 1015", "15"), "65|1: - - -|1:5 - - .");
        makes("with the same sign and one more", Check.told(2, "0016 1015", "154"), "65|1: - - -|1:5 - - .4");
        makes("with another sign", Check.told(2, "0016 1015", "14"), "6|1: - - -|1:5 - - .4");
        makes("one does not end", Check.told(4, "00156 10256 1137", "2"), "5656|1: - - -|2: - - -|- - - .");
        makes("it ends", Check.told(4, "00156 10256 1137", "2 3"), "56|1: - - -|2:56 2:7 - -|- - - .");
    }

    private static void firstWord() {
        Check.sentence("(what all outputs begin with is its first word)");
        WriterDesk desk = Check.told(2, "00117 01116", "1");
        makes("a sign of the edges", desk, "1|1:7 1:6 - -|- - - .");
        Check.first(desk, 0, "234");
        makes("the first word and a sign of the edges", desk, "2341|1:7 1:6 - -|- - - .");
        Check.last(desk, 0, 0, "");
        makes("the first word alone", desk, "234|1:17 1:16 - .|- - - .");
        Check.last(desk, 0, 0, "1");
        makes("a sign of the final word, too", desk, "2341|1:7 1:6 - .|- - - .");
        Check.first(desk, 0, "");
        makes("that sign alone", desk, "1|1:7 1:6 - .|- - - .");
        Check.last(desk, 0, 0, "2");
        makes("nothing", desk, "|1:17 1:16 - .2|- - - .");
        makes("one output: all of it", Check.told(1, "", "0123"), "123|- - - .");
        makes("one output without signs", Check.told(1, "", "0"), "|- - - .");
    }

    private static void longestFirstWord() {
        Check.sentence("(what all outputs begin with is its first word) (the longest: 3 + 5 * 3 + 3 signs)");
        String chain = "001123 112456 223701 304234 415567";
        String states = "|1: - - -|- 2: - -|- - 3: -|4: - - -|- 5: - -|";
        String[] more = {"", " 5150", " 5257"};
        String[] due = {"567012" + states + "- - - .", "5670" + states + "- 5:0 - .12",
            "567" + states + "- - 5:7 .012"};
        for (int i = 0; i < 3; i++) {
            WriterDesk desk = Check.told(6, chain + more[i], "5012");
            Check.first(desk, 0, "333");
            makes("edges" + more[i], desk, "333123456701234" + due[i]);
        }
    }

    private static void longestWords() {
        Check.sentence("writes all as early as can be (words of up to 57 signs)");
        compare("215111 104010 403011 005000 501111 01200 511111 000110 313 302111 02411", "4011", 57);
        compare("105100 504001 000 403111 201110 022010 321101 424 002101 312001 514001 02510", "311", 54);
        compare("202001 412011 315110 30411 003100 501101 120100 4101 225101 423101 020", "40", 47);
        compare("523110 422100 225001 30411 315010 021100 113111 414 0120 310110 124110 202 30411 105001", "3", 45);
        compare("013101 311111 114110 322111 200 415000 212110 520111 204010 2210 201011", "20", 45);
        compare("211000 412000 314011 015110 010000 513010 023110", "1001", 30);
        compare("324001 020111 021 000101 502111 123000 001001 0141 405101", "2111", 25);
    }

    private static void compare(String edges, String end, int longest) {
        String got = Check.madeInParts(() -> made(edges, end));
        Check.equal(longest + " signs", got, Naive.smallest(Naive.told(6, edges, end), 1000));
        int most = 0;
        for (String word : got.split("[^0-7]+")) {
            most = Math.max(most, word.length());
        }
        Check.equal("the longest word", most, longest);
    }

    private static WriterDesk made(String edges, String end) {
        WriterDesk desk = Check.told(6, edges, end);
        desk.smallest(0);
        return desk;
    }

    private static void asFewStatesAsCanBe() {
        Check.sentence("and as few states as can be");
        String round = "0115 1125 2135 3145 4155 5105";
        makes("six alike", Check.told(6, round, "06 16 26 36 46 56"), "|- 0:5 - .6");
        makes("every second one alike", Check.told(6, round, "06 17 26 37 46 57"), "|- 1:5 - .6|- 0:5 - .7");
        makes("every third one alike", Check.told(6, round, "06 17 2 36 47 5"), "|- 1:5 - .6|- 2:5 - .7|- 0:5 - .");
        makes("all but one alike", Check.told(6, round, "06 16 26 36 46 57"),
                "|- 1:5 - .6|- 2:5 - .6|- 3:5 - .6|- 4:5 - .6|- 5:5 - .6|- 0:5 - .7");
        makes("two alike but for where they write", Check.told(3, "0011 01212 12123 22232", "12 2"),
                "12|1: 1: - -|- - 1:32 .");
        makes("two that write others", Check.told(3, "0011 01212 12123 22233", "12 2"),
                "12|1: 2: - -|- - 1:32 .|- - 2:33 .");
        makes("two of which one reads more", Check.told(3, "0011 01212 12123 22232 202", "12 2"),
                "12|1: 2: - -|- - 1:32 .|2: - 2:32 .");
    }

    private static void numbers() {
        Check.sentence("Its states are numbered in the order of the first words by which they are come to.");
        makes("the lower letter first", Check.told(4, "021 012 003 101 212 323", "1 2 3"),
                "|1: 2: 3: -|- - 1: .|- 2: - .|3: - - .");
        makes("the shorter word first", Check.told(4, "021 002 203 101 313", "1 3"),
                "|1: - 2: -|3: - - -|2: - - .|- 3: - .");
        makes("the first word counts", Check.told(4, "021 002 203 101 313 221", "1 3"),
                "|1: - 2: -|3: - 2: -|2: - - .|- 3: - .");
        makes("without that word", Check.told(4, "002 203 101 313 221", "1 3"),
                "|1: - - -|2: - 3: -|- 2: - .|3: - - .");
        makes("state 0 is the first one always", Check.told(2, "011 100", "1"), "|- 1: - -|0: - - .");
    }
}
