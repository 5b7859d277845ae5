/** The boundary cases of promise 3, edge. */
public final class Boundary03Test {
    private Boundary03Test() {
    }

    public static void main(String[] args) {
        numbers();
        lengths();
        bits();
        noSuchStates();
        noSuchLetter();
        noSuchLength();
        twentyFour();
        oneThatIsThereAlready();
        Check.finish();
    }

    private static WriterDesk three() {
        WriterDesk desk = Check.told(3, "0011 1022", "0 1 23");
        Check.first(desk, 0, "5");
        return desk;
    }

    private static void numbers() {
        Check.sentence("An edge: its number.");
        WriterDesk desk = new WriterDesk();
        for (int e = 0; e < 24; e++) {
            for (int m = 0; m < 6; m++) {
                Check.equal("edge of machine " + m, desk.edge(m, 0, e % 3, 0, 0, 0), e);
            }
        }
        desk.machine(2, 1);
        Check.equal("the first one of a new machine", desk.edge(2, 0, 0, 0, 0, 0), 0);
        Check.throwing("refused", IllegalArgumentException.class, () -> desk.edge(2, 0, 3, 0, 0, 0));
        Check.equal("one that was refused has none", desk.edge(2, 0, 0, 0, 0, 0), 1);
    }

    private static void lengths() {
        Check.sentence("It writes n signs (0 .. 3)");
        for (int n = 0; n <= 3; n++) {
            WriterDesk desk = new WriterDesk();
            desk.edge(0, 0, 0, 0, n, 1 | 2 << 3 | 3 << 6 | 4 << 9);
            desk.last(0, 0, 0, 0);
            Check.reads(n + " signs", desk, 0, "0", "123".substring(0, n));
            Check.reads(n + " signs twice", desk, 0, "00", "123".substring(0, n) + "123".substring(0, n));
        }
    }

    private static void bits() {
        Check.sentence("three bits of word each, the first one lowest");
        String[] due = {"100", "200", "400", "010", "020", "040", "001", "002", "004", "000"};
        for (int bit = 0; bit < due.length; bit++) {
            WriterDesk desk = new WriterDesk();
            desk.edge(0, 0, 0, 0, 3, 1 << bit);
            desk.last(0, 0, 0, 0);
            Check.reads("bit " + bit, desk, 0, "0", due[bit]);
        }
        int[] words = {-1, Integer.MIN_VALUE, Integer.MAX_VALUE, 0, -512, 511};
        String[] written = {"777", "000", "777", "000", "000", "777"};
        for (int i = 0; i < words.length; i++) {
            WriterDesk desk = new WriterDesk();
            desk.edge(0, 0, 0, 0, 3, words[i]);
            desk.last(0, 0, 0, 0);
            Check.reads("word " + words[i], desk, 0, "0", written[i]);
        }
    }

    private static void noSuchStates() {
        Check.sentence("IllegalArgumentException, when there are no such states");
        int[] none = {-1, 3, 6, Integer.MIN_VALUE, Integer.MAX_VALUE};
        Check.refusedFor("from", IllegalArgumentException.class, Boundary03Test::three,
                (desk, q) -> desk.edge(0, q, 0, 0, 0, 0), none);
        Check.refusedFor("to", IllegalArgumentException.class, Boundary03Test::three,
                (desk, q) -> desk.edge(0, 0, 0, q, 0, 0), none);
        Check.refusedFor("from and to", IllegalArgumentException.class, Boundary03Test::three,
                (desk, q) -> desk.edge(0, q, 0, q, 0, 0), none);
        WriterDesk desk = three();
        Check.equal("from 0 to 2", desk.edge(0, 0, 0, 2, 0, 0), 2);
        Check.equal("from 2 to 0", desk.edge(0, 2, 0, 0, 0, 0), 3);
    }

    private static void noSuchLetter() {
        Check.sentence("IllegalArgumentException, when there are no such [..] letter");
        Check.refusedFor("by", IllegalArgumentException.class, Boundary03Test::three,
                (desk, letter) -> desk.edge(0, 0, letter, 0, 0, 0), -1, 3, Integer.MIN_VALUE, Integer.MAX_VALUE);
        WriterDesk desk = three();
        Check.equal("by 0", desk.edge(0, 2, 0, 2, 0, 0), 2);
        Check.equal("by 2", desk.edge(0, 2, 2, 2, 0, 0), 3);
    }

    private static void noSuchLength() {
        Check.sentence("IllegalArgumentException, when there are no such [..] n");
        Check.refusedFor("n", IllegalArgumentException.class, Boundary03Test::three,
                (desk, n) -> desk.edge(0, 0, 0, 0, n, 0), -1, 4, Integer.MIN_VALUE, Integer.MAX_VALUE);
        WriterDesk desk = three();
        Check.equal("n 0", desk.edge(0, 2, 0, 2, 0, 0), 2);
        Check.equal("n 3", desk.edge(0, 2, 2, 2, 3, 0), 3);
    }

    private static WriterDesk withEdges(int edges) {
        WriterDesk desk = Check.told(6, "", "01 12 2 3 4 5");
        for (int e = 0; e < edges; e++) {
            desk.edge(0, e % 6, e / 6 % 3, (e + e / 6) % 6, 1, e / 6);
        }
        return desk;
    }

    private static void twentyFour() {
        Check.sentence("UnsupportedOperationException, when there are 24.");
        Check.equal("23", withEdges(23).edge(0, 0, 0, 1, 3, 0), 23);
        Check.refused("24", UnsupportedOperationException.class, () -> withEdges(24),
                desk -> desk.edge(0, 0, 0, 1, 3, 0));
        WriterDesk desk = withEdges(24);
        for (int m = 1; m < 6; m++) {
            Check.equal("24 of machine 0 alone", desk.edge(m, 0, 0, 0, 0, 0), 0);
        }
        desk.machine(0, 6);
        Check.equal("none any more", desk.edge(0, 0, 0, 1, 3, 0), 0);
    }

    private static void oneThatIsThereAlready() {
        Check.sentence("(That edge may be there already: it counts once more.)");
        WriterDesk desk = Check.told(1, "", "0");
        for (int e = 0; e < 24; e++) {
            Check.equal("the same edge", desk.edge(0, 0, 1, 0, 2, 0x2a), e);
            Check.equal("it counts", desk.count(1), e + 1);
        }
        Check.throwing("the same edge for the 25th time", UnsupportedOperationException.class,
                () -> desk.edge(0, 0, 1, 0, 2, 0x2a));
        Check.reads("but writes no more", desk, 0, "111", "252525");
        Check.equal("it is a function still", desk.isFunction(0), true);
        desk.smallest(0);
        Check.equal("its smallest machine has the edge once", Check.made(desk), "|- 0:25 - .");
    }
}
