import java.util.ArrayList;
import java.util.List;
import java.util.function.Consumer;
import java.util.function.ObjIntConsumer;

/** The boundary cases of what the document says of all calls: the result, exceptions, NONE, and how many calls. */
public final class BoundaryCallsTest {
    /** Far too many residuals, but no function, for state 0 ends words, too. */
    private static final String MANY = "02030 02120 0000 0101 1010 1111";

    private BoundaryCallsTest() {
    }

    public static void main(String[] args) {
        emptyAtFirst();
        toldLast();
        notTold();
        firstExceptionOfTellingCalls();
        firstExceptionOfRead();
        firstExceptionOfQuestions();
        firstExceptionOfSmallestMachine();
        noSuchMachine();
        none();
        lastOfAllCalls();
        Check.finish();
    }

    private static void emptyAtFirst() {
        Check.sentence("THE RESULT is a word that was told last (empty at first).");
        WriterDesk desk = new WriterDesk();
        Check.equal("its length", desk.count(0), 0);
        Check.throwing("its first sign", IndexOutOfBoundsException.class, () -> desk.sign(0));
        Check.tell(desk, 0, 1, "0001", "07");
        Check.equal("still", desk.count(0), 0);
        Check.read(desk, 0, "", 0);
        Check.result("not any more", desk, "7");
    }

    /** Machine 0 is a function that writes 1234 for the word 0; machine 1 has two outputs for 2; a result is told. */
    private static WriterDesk withResult() {
        WriterDesk desk = Check.told(2, "00123", "14");
        Check.first(desk, 0, "1");
        Check.tell(desk, 1, 1, "020 0207", "0");
        Check.tell(desk, 2, 2, "00123 0110", "14");
        Check.first(desk, 2, "1");
        desk.smallest(0);
        Check.read(desk, 0, "0", 0);
        Check.result("a result", desk, "1234");
        return desk;
    }

    private static void toldLast() {
        Check.sentence("THE RESULT is a word that was told last (by each call that tells one).");
        WriterDesk desk = withResult();
        desk.isFunction(1);
        Check.result("isFunction, the word", desk, "2");
        desk.isSame(0, 2);
        Check.result("isSame, the word", desk, "1");
        desk.ends(WriterDesk.NONE);
        Check.result("ends, the first word", desk, "1234");
        desk.next(0, 0);
        Check.result("next, an empty word", desk, "");
        Check.read(desk, 2, "0", 0);
        Check.result("read", desk, "1234");
        desk.isFunction(0);
        Check.result("isFunction, no word", desk, "");
        Check.read(desk, 2, "1", 0);
        Check.result("read", desk, "104");
        desk.isSame(0, 0);
        Check.result("isSame, no word", desk, "");
        Check.read(desk, 2, "1", 0);
        desk.ends(1);
        Check.result("ends, an empty word", desk, "");
        Check.read(desk, 2, "1", 0);
        desk.next(1, 1);
        Check.result("next, no edge", desk, "");
        Check.read(desk, 2, "1", 0);
        desk.ends(0);
        Check.result("ends, no final word", desk, "");
        Check.read(desk, 2, "1", 0);
        Check.read(desk, 2, "2", 0);
        Check.result("read, no output", desk, "");
    }

    private static void notTold() {
        Check.sentence("THE RESULT is a word that was told last (so calls that tell none leave it).");
        List<Consumer<WriterDesk>> calls = new ArrayList<>();
        calls.add(desk -> desk.machine(0, 6));
        calls.add(desk -> desk.edge(0, 1, 2, 1, 3, 511));
        calls.add(desk -> desk.last(0, 1, 3, 511));
        calls.add(desk -> desk.last(0, 1, WriterDesk.NONE, 0));
        calls.add(desk -> desk.first(0, 3, 511));
        calls.add(desk -> desk.useful(0));
        calls.add(desk -> desk.isSteady(2));
        calls.add(desk -> desk.smallest(2));
        calls.add(desk -> desk.smallest(5));
        calls.add(desk -> desk.count(0));
        calls.add(desk -> desk.count(7));
        calls.add(desk -> desk.sign(3));
        for (int i = 0; i < calls.size(); i++) {
            WriterDesk desk = withResult();
            calls.get(i).accept(desk);
            Check.result("call " + i, desk, "1234");
        }
    }

    private static void firstExceptionOfTellingCalls() {
        Check.sentence("Of several exceptions the first one told is thrown. (machine, edge, last, first)");
        WriterDesk desk = new WriterDesk();
        for (int e = 0; e < 24; e++) {
            desk.edge(5, 0, 0, 0, 0, 0);
        }
        Check.throwing("machine and states", IndexOutOfBoundsException.class, () -> desk.machine(6, 7));
        Check.throwing("machine and state", IndexOutOfBoundsException.class, () -> desk.edge(6, 1, 0, 0, 0, 0));
        Check.throwing("machine and letter", IndexOutOfBoundsException.class, () -> desk.edge(-1, 0, 3, 0, 0, 0));
        Check.throwing("state and 24 edges", IllegalArgumentException.class, () -> desk.edge(5, 1, 0, 0, 0, 0));
        Check.throwing("letter and 24 edges", IllegalArgumentException.class, () -> desk.edge(5, 0, -1, 0, 0, 0));
        Check.throwing("the other state and 24 edges", IllegalArgumentException.class,
                () -> desk.edge(5, 0, 0, 1, 0, 0));
        Check.throwing("n and 24 edges", IllegalArgumentException.class, () -> desk.edge(5, 0, 0, 0, -1, 0));
        Check.throwing("24 edges alone", UnsupportedOperationException.class, () -> desk.edge(5, 0, 0, 0, 0, 0));
        Check.throwing("machine and state for last", IndexOutOfBoundsException.class, () -> desk.last(6, 1, 0, 0));
        Check.throwing("machine and n for last", IndexOutOfBoundsException.class, () -> desk.last(6, 0, 4, 0));
        Check.throwing("machine and n for first", IndexOutOfBoundsException.class, () -> desk.first(6, -1, 0));
    }

    private static void firstExceptionOfRead() {
        Check.sentence("Of several exceptions the first one told is thrown. (read)");
        WriterDesk desk = new WriterDesk();
        for (int sign = 0; sign < 8; sign++) {
            desk.edge(0, 0, 0, 0, 1, sign);
        }
        Check.last(desk, 0, 0, "");
        Check.throwing("machine and n", IndexOutOfBoundsException.class, () -> desk.read(6, 11, 0, 0));
        Check.throwing("machine and letter", IndexOutOfBoundsException.class, () -> desk.read(-1, 1, 3, 0));
        Check.throwing("a letter and too many behind all", IllegalArgumentException.class,
                () -> desk.read(0, 4, 3 << 6, 0));
        Check.throwing("a letter, and too many before it", IllegalArgumentException.class,
                () -> desk.read(0, 10, 3 << 18, 0));
        Check.throwing("n and too many", IllegalArgumentException.class, () -> desk.read(0, 11, 0, 0));
        Check.throwing("too many alone", UnsupportedOperationException.class, () -> desk.read(0, 10, 0, 0));
    }

    private static void firstExceptionOfQuestions() {
        Check.sentence("Of several exceptions the first one told is thrown. (isSame, isSteady, smallest)");
        WriterDesk desk = Check.told(2, MANY, "0 1");
        Check.equal("no function", desk.isFunction(0), false);
        Check.throwing("machine and no function", IndexOutOfBoundsException.class, () -> desk.isSame(0, 6));
        Check.throwing("machine and no function", IndexOutOfBoundsException.class, () -> desk.isSame(-1, 0));
        Check.throwing("no function", IllegalStateException.class, () -> desk.isSame(0, 0));
        Check.throwing("no function, too many", IllegalStateException.class, () -> desk.isSteady(0));
        Check.throwing("no function, too many", IllegalStateException.class, () -> desk.smallest(0));
        desk.last(0, 0, WriterDesk.NONE, 0);
        Check.throwing("not steady, too many later", IllegalStateException.class, () -> desk.smallest(0));
        Check.last(desk, 0, 1, "444");
        Check.throwing("too many", UnsupportedOperationException.class, () -> desk.isSteady(0));
        Check.throwing("too many", UnsupportedOperationException.class, () -> desk.smallest(0));
    }

    private static void firstExceptionOfSmallestMachine() {
        Check.sentence("Of several exceptions the first one told is thrown. (next, ends)");
        WriterDesk desk = new WriterDesk();
        Check.throwing("none made, no state", IllegalStateException.class, () -> desk.next(40, 0));
        Check.throwing("none made, no letter", IllegalStateException.class, () -> desk.next(0, 3));
        Check.throwing("none made, no state", IllegalStateException.class, () -> desk.ends(-2));
        desk.smallest(0);
        Check.throwing("no state", IllegalArgumentException.class, () -> desk.next(40, 0));
        Check.throwing("no letter", IllegalArgumentException.class, () -> desk.next(0, 3));
        Check.throwing("no state", IllegalArgumentException.class, () -> desk.ends(-2));
    }

    private static void noSuchMachine() {
        Check.sentence("For all calls with a machine: IndexOutOfBoundsException (first), "
                + "when there is no such machine.");
        List<ObjIntConsumer<WriterDesk>> calls = new ArrayList<>();
        calls.add((desk, m) -> desk.machine(m, 1));
        calls.add((desk, m) -> desk.edge(m, 0, 0, 0, 0, 0));
        calls.add((desk, m) -> desk.last(m, 0, 0, 0));
        calls.add((desk, m) -> desk.first(m, 0, 0));
        calls.add((desk, m) -> desk.useful(m));
        calls.add((desk, m) -> desk.read(m, 0, 0, 0));
        calls.add((desk, m) -> desk.isFunction(m));
        calls.add((desk, m) -> desk.isSame(m, 0));
        calls.add((desk, m) -> desk.isSame(0, m));
        calls.add((desk, m) -> desk.isSame(m, m));
        calls.add((desk, m) -> desk.isSteady(m));
        calls.add((desk, m) -> desk.smallest(m));
        for (int i = 0; i < calls.size(); i++) {
            ObjIntConsumer<WriterDesk> call = calls.get(i);
            WriterDesk desk = new WriterDesk();
            for (int m = 0; m < 6; m++) {
                int there = m;
                Check.throwing("call " + i + " with machine " + m, null, () -> call.accept(desk, there));
            }
            Check.refusedFor("call " + i + " with machine", IndexOutOfBoundsException.class,
                    BoundaryCallsTest::withResult, call, Check.NO_MACHINES);
        }
    }

    private static void none() {
        Check.sentence("NONE = -1: Nothing there.");
        Check.equal("NONE", WriterDesk.NONE, -1);
        WriterDesk desk = Check.told(1, "000", "0");
        desk.smallest(0);
        Check.equal("no edge", desk.next(0, 1), -1);
        Check.equal("an edge", desk.next(0, 0), 0);
        Check.equal("no such count", desk.count(3), -1);
        Check.equal("the first word", desk.ends(-1), true);
        desk.last(0, 0, -1, 0);
        Check.equal("no final word", desk.useful(0), 0);
    }

    /** 511 calls of all sorts, the dear ones and the refused ones among them, and one more. */
    private static void lastOfAllCalls() {
        Check.sentence("An object is used for at most 512 calls after it has been made");
        WriterDesk desk = Check.told(2, "020300 021200 0000 0101 1010 1111", "1");
        int calls = 1 + 6 + 1;
        while (calls < 510) {
            Check.throwing("not steady", IllegalStateException.class, () -> desk.smallest(0));
            Check.throwing("no state", IllegalArgumentException.class, () -> desk.last(0, 2, 0, 0));
            calls += 2;
        }
        Check.equal("call 511", desk.isSame(0, 0), true);
        Check.equal("call 512", desk.isSteady(0), false);
    }
}
