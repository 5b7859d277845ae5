/** The boundary cases of promise 15, sign. */
public final class Boundary15Test {
    private Boundary15Test() {
    }

    public static void main(String[] args) {
        signs();
        letters();
        noneOfAnEmptyResult();
        noneBehindTheEnd();
        Check.finish();
    }

    private static void signs() {
        Check.sentence("Letter or sign i of the result. (signs)");
        WriterDesk desk = Check.told(1, "000345", "067");
        Check.first(desk, 0, "012");
        Check.read(desk, 0, "0", 0);
        for (int i = 0; i < 8; i++) {
            Check.equal("sign " + i, desk.sign(i), i);
        }
        Check.equal("the first one once more", desk.sign(0), 0);
        Check.read(desk, 0, "0000000000", 0);
        String due = "012" + "345".repeat(10) + "67";
        for (int i = 0; i < due.length(); i++) {
            Check.equal("sign " + i + " of 35", desk.sign(i), due.charAt(i) - '0');
        }
    }

    private static void letters() {
        Check.sentence("Letter or sign i of the result. (letters)");
        WriterDesk desk = Check.told(4, "021 112 203 2037", "3");
        desk.isFunction(0);
        for (int i = 0; i < 3; i++) {
            Check.equal("letter " + i, desk.sign(i), 2 - i);
        }
        Check.throwing("letter 3", IndexOutOfBoundsException.class, () -> desk.sign(3));
    }

    private static void noneOfAnEmptyResult() {
        Check.sentence("IndexOutOfBoundsException, when there is none. (an empty result)");
        int[] all = {0, 1, -1, Integer.MIN_VALUE, Integer.MAX_VALUE};
        WriterDesk desk = new WriterDesk();
        Check.throwingFor("at first: sign", IndexOutOfBoundsException.class, i -> desk.sign(i), all);
        Check.tell(desk, 0, 1, "", "0123");
        Check.read(desk, 0, "", 0);
        Check.equal("one is told", desk.sign(0), 1);
        Check.read(desk, 0, "", 1);
        Check.throwingFor("an empty one is told: sign", IndexOutOfBoundsException.class, i -> desk.sign(i), all);
    }

    private static void noneBehindTheEnd() {
        Check.sentence("IndexOutOfBoundsException, when there is none. (behind the end, or before the beginning)");
        for (int n = 0; n <= 10; n++) {
            WriterDesk desk = Check.told(1, "000765", "01");
            desk.read(0, n, 0, 0);
            int last = 3 * n;
            Check.equal("sign " + last, desk.sign(last), 1);
            Check.throwingFor("sign", IndexOutOfBoundsException.class, i -> desk.sign(i), last + 1, last + 2, last + 16,
                    -1, Integer.MIN_VALUE, Integer.MAX_VALUE);
        }
        WriterDesk desk = Check.told(1, "000765", "01");
        desk.read(0, 10, 0, 0);
        desk.read(0, 1, 0, 0);
        Check.equal("a shorter one behind a longer one", desk.sign(3), 1);
        Check.throwing("its sign 4", IndexOutOfBoundsException.class, () -> desk.sign(4));
    }
}
