/** Promise 10: setBuffer and getBuffer reach the registered buffers and nothing else. */
public final class Promise10BuffersTest {
    private static final Check check = new Check();
    private static final int[] WRONG = {-1, -8, 8, 9, 16, Integer.MIN_VALUE, Integer.MAX_VALUE};
    private static final int[] VALUES = {0, 1, -1, 42, Integer.MIN_VALUE, Integer.MAX_VALUE};

    private static void anyValueInAnyBuffer() {
        AsyncRings rings = new AsyncRings(4, 4, 0);
        for (int value : VALUES) {
            for (int i = 0; i < AsyncRings.BUFFERS; i++) {
                check.yes("setBuffer(" + i + ", " + value + ")", rings.setBuffer(i, value));
                check.same("getBuffer(" + i + ")", rings.getBuffer(i), value);
            }
        }
        for (int i = 0; i < AsyncRings.BUFFERS; i++) {
            rings.setBuffer(i, 100 + i);
        }
        for (int i = 0; i < AsyncRings.BUFFERS; i++) {
            check.same("getBuffer(" + i + ")", rings.getBuffer(i), 100 + i);
        }
    }

    private static void wrongIndex() {
        AsyncRings rings = new AsyncRings(4, 4, 0);
        for (int i = 0; i < AsyncRings.BUFFERS; i++) {
            rings.setBuffer(i, 100 + i);
        }
        String before = Snapshot.of(rings);
        for (int i : WRONG) {
            check.no("setBuffer(" + i + ", 5)", rings.setBuffer(i, 5));
            check.same("getBuffer(" + i + ")", rings.getBuffer(i), 0);
        }
        check.yes("a wrong index changes nothing", before.equals(Snapshot.of(rings)));
    }

    private static void nothingElseChanges() {
        AsyncRings rings = new AsyncRings(8, 2, 2);
        for (int i = 1; i <= 4; i++) {
            rings.prep(AsyncRings.OP_NOP, 0, 0, i);
        }
        rings.prep(AsyncRings.OP_READ, 0, 2, 5);
        rings.enter(5);
        rings.pop();
        rings.prep(AsyncRings.OP_NOP, 0, 0, 6);
        String before = Snapshot.of(rings);
        check.yes("setBuffer(2, 7)", rings.setBuffer(2, 7));
        check.same("getBuffer(2)", rings.getBuffer(2), 7);
        rings.setBuffer(2, 0);
        check.yes("setBuffer changes its buffer alone", before.equals(Snapshot.of(rings)));
        rings.setBuffer(2, 7);
        rings.tick();
        rings.tick();
        check.same("getBuffer(2) after a read of an empty block", rings.getBuffer(2), 0);
    }

    public static void main(String[] args) {
        anyValueInAnyBuffer();
        wrongIndex();
        nothingElseChanges();
        check.end();
    }
}
