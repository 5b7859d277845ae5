/** The boundary cases of promise 10, isSteady. What n * n * g is has its cases in BoundarySteadyTest. */
public final class Boundary10Test {
    private Boundary10Test() {
    }

    public static void main(String[] args) {
        whether();
        noFunction();
        threeThousand();
        threeThousandInAll();
        inOrder();
        differentOnes();
        noneLonger();
        Check.finish();
    }

    private static void whether() {
        Check.sentence("Whether a function is steady.");
        Check.equal("no output", new WriterDesk().isSteady(0), true);
        Check.equal("no guess", Check.told(1, "000123 01045 020", "06").isSteady(0), true);
        Check.equal("a guess that the next letter settles", Check.told(4, "0011 0022 113 223", "3").isSteady(0), true);
        Check.equal("a guess that any later letter settles", Check.told(4, "0011 0022 1011 2022 113 223", "3")
                .isSteady(0), false);
        Check.equal("the same without signs on the way", Check.told(4, "0011 0022 101 202 113 223", "3").isSteady(0),
                true);
        Check.equal("one way with signs on the way", Check.told(4, "0011 0022 101 2022 113 223", "3").isSteady(0),
                false);
    }

    private static WriterDesk notOne() {
        return Check.tell(Check.told(1, "000 0001", "0"), 1, 1, "000", "07");
    }

    private static void noFunction() {
        Check.sentence("IllegalStateException, when it is none");
        Check.refused("none", IllegalStateException.class, Boundary10Test::notOne, desk -> desk.isSteady(0));
        Check.equal("one", notOne().isSteady(1), true);
        WriterDesk desk = notOne();
        desk.last(0, 0, WriterDesk.NONE, 0);
        Check.equal("none, but without a final word it is one", desk.isSteady(0), true);
    }

    /** 3000 for length 16, where none is longer than 4 * 4 * 1; 3001 for length 27, where none is than 3 * 3 * 3. */
    private static void threeThousand() {
        Check.sentence("UnsupportedOperationException, when up to some length there are more than 3000");
        WriterDesk exactly = Check.told(5, Known.THREE_THOUSAND, "1");
        Check.equal("3000 for length 16, longer ones for 17", exactly.isSteady(0), false);
        Check.refused("3001 for length 27", UnsupportedOperationException.class, Boundary10Test::oneMore,
                desk -> desk.isSteady(0));
    }

    /** All there are: no longer word has another one. So both are steady but for the limit. */
    private static void threeThousandInAll() {
        Check.sentence("UnsupportedOperationException, when up to some length there are more than 3000 (in all)");
        WriterDesk exactly = Check.told(6, "521 101 025110 0051 20411 21401 10011 320 5130 2241 31002 003210 222 502"
                + " 11212 511200 515", "42");
        Check.equal("3000 in all: a function", exactly.isFunction(0), true);
        Check.equal("3000 in all", exactly.isSteady(0), true);
        WriterDesk more = Check.told(6, "313121 5120 5142 205222 110 401 50020 311 315 422110 424 121 020 104 2231"
                + " 003222 102", "312");
        Check.equal("3002 in all: a function", more.isFunction(0), true);
        Check.throwing("3002 in all", UnsupportedOperationException.class, () -> more.isSteady(0));
        Check.throwing("3002 in all, smallest", UnsupportedOperationException.class, () -> more.smallest(0));
    }

    private static WriterDesk oneMore() {
        WriterDesk desk = Check.told(5, Known.ONE_MORE, "1110");
        return Check.tell(desk, 1, 1, "", "07");
    }

    /** In order 4096 for length 11, but 2049 if it did not matter which of the two comes first. */
    private static void inOrder() {
        Check.sentence("different ones of two states and their residuals, in order");
        Check.throwing("4096 in order", UnsupportedOperationException.class,
                () -> Known.lastTwo("30", "20", "000").isSteady(0));
        Check.equal("2048 in order", Known.lastTwo("30", "200", "000").isSteady(0), false);
    }

    private static void differentOnes() {
        Check.sentence("more than 3000 different ones (those that come again count once)");
        Check.equal("all words, one state", Check.told(1, "0000 0101 0202", "0").isSteady(0), true);
        Check.equal("all words, 36 pairs of states", Check.told(6, "000 001 002 003 004 005 100 201 302 403 504",
                "0 1 2 3 4 5").isSteady(0), true);
        Check.equal("always one sign ahead", Check.told(3, "00112 0021 10112 20221", "1 22").isSteady(0), true);
    }

    private static void noneLonger() {
        Check.sentence("and none longer than told");
        Check.throwing("more than 3000 for length 11, as long as told", UnsupportedOperationException.class,
                () -> Known.lastTwo("30", "20", "000").isSteady(0));
        Check.equal("more than 3000 for length 11, one of them longer",
                Known.lastTwo("30", "200", "000").isSteady(0), false);
        Check.equal("more than 3000 for length 11, one longer before",
                Known.lastTwo("30", "20", "00").isSteady(0), false);
    }
}
