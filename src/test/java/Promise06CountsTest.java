/** Promise 6: cqReady and overflowCount tell where the completions are. */
public final class Promise06CountsTest {
    private static final Check check = new Check();

    private static void bothGrowInTurn() {
        for (int size = AsyncRings.CQ_MIN; size <= AsyncRings.CQ_MAX; size++) {
            AsyncRings rings = new AsyncRings(4, size, 0);
            for (int posted = 0; posted <= size + 32; posted++) {
                check.same("cqReady() of " + size, rings.cqReady(), Math.min(posted, size));
                check.same("overflowCount() of " + size, rings.overflowCount(), Math.max(0, posted - size));
                rings.prep(AsyncRings.OP_NOP, 0, 0, 1);
                rings.enter(1);
            }
            check.same("overflowCount() at its most", rings.overflowCount(), 32);
            check.same("cqReady() at its most", rings.cqReady(), size);
        }
    }

    private static void aParkedOneHoldsOthersBack() {
        AsyncRings rings = new AsyncRings(8, 2, 0);
        for (int i = 1; i <= 3; i++) {
            rings.prep(AsyncRings.OP_NOP, 0, 0, i);
        }
        rings.enter(3);
        rings.pop();
        rings.pop();
        check.completions("room, but nothing flushed", rings, 1, 3, 0);
        rings.prep(AsyncRings.OP_NOP, 0, 0, 4);
        check.completions("prep flushes nothing", rings, 1, 3, 0);
        rings.enter(1);
        check.completions("after enter", rings, 0, 3, 0, 4, 0);
    }

    private static void askingChangesNothing() {
        AsyncRings rings = new AsyncRings(8, 2, 0);
        for (int i = 1; i <= 4; i++) {
            rings.prep(AsyncRings.OP_NOP, 0, 0, i);
        }
        rings.enter(4);
        rings.pop();
        String before = Snapshot.of(rings);
        for (int i = 0; i < 3; i++) {
            check.same("cqReady()", rings.cqReady(), 1);
            check.same("overflowCount()", rings.overflowCount(), 2);
        }
        check.yes("asking changes nothing", before.equals(Snapshot.of(rings)));
    }

    public static void main(String[] args) {
        bothGrowInTurn();
        aParkedOneHoldsOthersBack();
        askingChangesNothing();
        check.end();
    }
}
