/** Machines that lie on a boundary, told as for Check.tell(). */
final class Known {
    /** Six states, of which 0 ends words: the smallest machine has 40 states. */
    static final String FORTY = "025 420 323 221 312 102 103 213 222 302 302 115 521 514 105 205 420 205 010";
    /** Six states, of which 3 ends words: the smallest machine would have 41 states. */
    static final String FORTY_ONE = "014 025 512 003 200 021 223 421 401 501 314 205 322 524 104 305 302 105 420";
    /** Six states, all of which end words: the first word that can't be read has 31 letters. */
    static final String ALL_UP_TO_THIRTY = "014 222 514 420 012 112 205 013 524 020 015 324 213 102 321 300 322 201 411"
            + " 404 503 522 000 315";
    /** State 1 ends words: there are 3000 residuals up to length 16, none longer than 4 * 4 * 1; longer ones for 17. */
    static final String THREE_THOUSAND = "0201 021 2020 4130 2000 3100 303 0140 1000 124 4230";
    /** State 1 ends words with 3 signs: there are 3001 residuals up to length 27, none longer than 3 * 3 * 3. */
    static final String ONE_MORE = "020 0211 4000 004 0140 1010 1100 011";

    private Known() {
    }

    /**
     * A guess whether this 2 is the last one; behind it 0 and 1 are written as they are read. Up to length L there are
     * 2 * 2^L residuals: 2048 for 10, 4096 for 11, where they are 10 signs longer than those of the word 2.
     */
    static WriterDesk lastTwo(String goesOn, String isLast, String end) {
        return Check.told(2, "020" + goesOn + " 021" + isLast + " 0000 0101 1010 1111", "1" + end);
    }

    static WriterDesk forty() {
        return Check.told(6, FORTY, "0");
    }

    static WriterDesk fortyOne() {
        return Check.told(6, FORTY_ONE, "3");
    }

    /** The smallest machine of forty() as Check.made() has it. */
    static String fortyMade() {
        return Naive.smallest(Naive.told(6, FORTY, "0"), 1000);
    }
}
