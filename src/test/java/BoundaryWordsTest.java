/** The boundary cases of the document's terms: words, their letters and signs, and their order. */
public final class BoundaryWordsTest {
    private BoundaryWordsTest() {
    }

    public static void main(String[] args) {
        lettersOfEdges();
        lettersOfWordsToRead();
        signs();
        shorterOutputsFirst();
        shorterWordsFirst();
        lowerSignsFirst();
        lowerLettersFirst();
        Check.finish();
    }

    private static void lettersOfEdges() {
        Check.sentence("WORDS TO READ have LETTERS 0 .. 2");
        WriterDesk desk = Check.told(1, "0003 0104 0205", "0");
        for (int letter = 0; letter < 3; letter++) {
            Check.reads("letter " + letter, desk, 0, "" + letter, "" + (3 + letter));
        }
        desk.smallest(0);
        for (int letter = 0; letter < 3; letter++) {
            Check.equal("next by " + letter, desk.next(0, letter), 0);
            Check.result("next by " + letter, desk, "" + (3 + letter));
        }
        int[] none = {-1, 3, 4, 7, Integer.MIN_VALUE, Integer.MAX_VALUE};
        Check.throwingFor("edge by", IllegalArgumentException.class, a -> desk.edge(0, 0, a, 0, 0, 0), none);
        Check.throwingFor("next by", IllegalArgumentException.class, a -> desk.next(0, a), none);
        Check.equal("edges", desk.count(1), 3);
    }

    private static void lettersOfWordsToRead() {
        Check.sentence("WORDS TO READ have LETTERS 0 .. 2 (a word to read with each of them in each place)");
        WriterDesk desk = Check.told(1, "0000 0101 0202", "0");
        for (int at = 0; at < 10; at++) {
            for (int letter = 0; letter < 3; letter++) {
                StringBuilder word = new StringBuilder("2102102102");
                word.setCharAt(at, (char) ('0' + letter));
                Check.reads("all three", desk, 0, word.toString(), word.toString());
            }
            int three = 3 << 2 * at;
            Check.throwing("3 at " + at, IllegalArgumentException.class, () -> desk.read(0, 10, three, 0));
        }
    }

    private static void signs() {
        Check.sentence("words that are written have SIGNS 0 .. 7");
        for (int at = 0; at < 3; at++) {
            for (int sign = 0; sign < 8; sign++) {
                WriterDesk desk = new WriterDesk();
                StringBuilder word = new StringBuilder("525");
                word.setCharAt(at, (char) ('0' + sign));
                Check.edge(desk, 0, 0, 1, 0, word.toString());
                Check.last(desk, 0, 0, word.toString());
                Check.first(desk, 0, word.toString());
                Check.reads("sign " + sign + " at " + at, desk, 0, "1", word.toString() + word + word);
            }
        }
    }

    private static void shorterOutputsFirst() {
        Check.sentence("Shorter words come first (outputs)");
        WriterDesk desk = Check.told(2, "001000 00177 0016 001", "1");
        Check.reads("three signs down to none", desk, 0, "0", "", "6", "77", "000");
        Check.last(desk, 0, 1, "5");
        Check.reads("four signs down to one", desk, 0, "0", "5", "65", "775", "0005");
    }

    private static void shorterWordsFirst() {
        Check.sentence("Shorter words come first (words to read)");
        WriterDesk desk = Check.told(3, "001 1021 1022 022", "2");
        Check.equal("two outputs for 00", desk.isFunction(0), false);
        Check.result("two outputs for 00", desk, "00");
        Check.edge(desk, 0, 0, 2, 2, "1");
        Check.equal("two outputs for 2, too", desk.isFunction(0), false);
        Check.result("two outputs for 2, too", desk, "2");
        Check.tell(desk, 0, 3, "001 102 022", "2");
        Check.tell(desk, 1, 3, "001 1027 022", "2");
        Check.equal("00 tells them apart", desk.isSame(0, 1), false);
        Check.result("00 tells them apart", desk, "00");
        Check.tell(desk, 1, 3, "001 1027 0227", "2");
        Check.equal("2, too", desk.isSame(0, 1), false);
        Check.result("2, too", desk, "2");
        Check.tell(desk, 1, 3, "001 1027", "2");
        Check.equal("only one reads 2", desk.isSame(0, 1), false);
        Check.result("only one reads 2", desk, "2");
        Check.tell(desk, 0, 3, "001 1021 0222 222", "21");
        Check.equal("smallest", desk.smallest(0), 3);
        Check.equal("2 comes to a state before 00", Check.made(desk), "|1:11 - 2:21 -|2: - - -|- - 2: .");
    }

    private static void lowerSignsFirst() {
        Check.sentence("of those of one length the one with the lower letter where they differ first (outputs)");
        WriterDesk desk = Check.told(2, "001070 001700 001007 001106 001106 001077 001100", "1");
        Check.reads("three signs", desk, 0, "0", "007", "070", "077", "100", "106", "700");
        Check.tell(desk, 0, 2, "0017 0016 0015 0014 0013 0012 0011 0010", "1");
        Check.reads("one sign", desk, 0, "0", "0", "1", "2", "3", "4", "5", "6", "7");
    }

    private static void lowerLettersFirst() {
        Check.sentence("of those of one length the one with the lower letter where they differ first (words to read)");
        String[] words = {"22", "21", "20", "12", "11", "10", "02", "01", "00"};
        WriterDesk desk = Check.told(5, "001 012 023", "");
        WriterDesk two = Check.told(5, "001 012 023", "");
        Check.tell(two, 1, 5, "001 012 023 104 114 124 204 214 224 304 314 324", "4");
        for (String word : words) {
            int from = 1 + word.charAt(0) - '0';
            int letter = word.charAt(1) - '0';
            Check.edge(desk, 0, from, letter, 4, "");
            Check.edge(desk, 0, from, letter, 4, "1");
            Check.last(desk, 0, 4, "");
            Check.equal("two outputs for " + word, desk.isFunction(0), false);
            Check.result("two outputs for " + word, desk, word);
        }
        for (int i = words.length - 1; i >= 0; i--) {
            Check.last(two, 0, 4, "");
            Check.equal("all from " + words[i] + " on apart", two.isSame(1, 0), false);
            Check.result("all from " + words[i] + " on apart", two, words[i]);
            Check.edge(two, 0, 1 + words[i].charAt(0) - '0', words[i].charAt(1) - '0', 4, "");
        }
        Check.equal("none apart", two.isSame(1, 0), true);
    }
}
