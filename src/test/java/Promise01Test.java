/** A new object. */
public final class Promise01Test {
    private Promise01Test() {
    }

    public static void main(String[] args) {
        Check.equal("NONE", WriterDesk.NONE, -1);
        WriterDesk desk = new WriterDesk();
        Check.equal("count(0)", desk.count(0), 0);
        Check.equal("count(1)", desk.count(1), 0);
        Check.equal("count(2)", desk.count(2), 0);
        Check.throwing("sign(0)", IndexOutOfBoundsException.class, () -> desk.sign(0));
        Check.throwing("next(0, 0)", IllegalStateException.class, () -> desk.next(0, 0));
        Check.throwing("ends(0)", IllegalStateException.class, () -> desk.ends(0));
        for (int m = 0; m < 6; m++) {
            isNew(desk, m);
        }
        WriterDesk other = new WriterDesk();
        Check.equal("another object's useful(0)", other.useful(0), 0);
        Check.equal("another object's count(1)", other.count(1), 0);
        Check.finish();
    }

    private static void isNew(WriterDesk desk, int m) {
        String name = "machine " + m + ": ";
        Check.equal(name + "useful", desk.useful(m), 0);
        Check.equal(name + "read", desk.read(m, 0, 0, 0), 0);
        Check.equal(name + "isFunction", desk.isFunction(m), true);
        Check.equal(name + "isSteady", desk.isSteady(m), true);
        Check.throwing(name + "a second state", IllegalArgumentException.class, () -> desk.last(m, 1, 0, 0));
        Check.throwing(name + "an edge to it", IllegalArgumentException.class, () -> desk.edge(m, 0, 0, 1, 0, 0));
        desk.last(m, 0, 0, 0);
        Check.equal(name + "useful with a final word", desk.useful(m), 1);
        Check.equal(name + "read with a final word", desk.read(m, 0, 0, 0), 1);
        Check.result(name + "an empty first word", desk, "");
        for (int letter = 0; letter < 3; letter++) {
            Check.equal(name + "no edge by " + letter, desk.read(m, 1, letter, 0), 0);
        }
        Check.equal(name + "first edge", desk.edge(m, 0, 0, 0, 0, 0), 0);
    }
}
