/** Promise 8: sqPending counts what prep has written and enter has not yet consumed. */
public final class Promise08SqPendingTest {
    private static final Check check = new Check();

    private static void countsUpAndDown() {
        AsyncRings rings = new AsyncRings(3, 16, 0);
        check.same("sqPending()", rings.sqPending(), 0);
        for (int round = 0; round < 10; round++) {
            rings.prep(AsyncRings.OP_NOP, 0, 0, 1);
            check.same("sqPending()", rings.sqPending(), 1);
            rings.prep(AsyncRings.OP_READ, -1, -1, 1);
            rings.prep(AsyncRings.OP_NOP, 0, 0, 1);
            check.same("sqPending() of a full ring", rings.sqPending(), 3);
            rings.prep(AsyncRings.OP_NOP, 0, 0, 1);
            check.same("sqPending() after a refused prep", rings.sqPending(), 3);
            rings.tick();
            rings.pop();
            rings.enter(0);
            check.same("sqPending() after tick, pop and enter(0)", rings.sqPending(), 3);
            rings.enter(2);
            check.same("sqPending() after enter(2)", rings.sqPending(), 1);
            rings.enter(2);
            check.same("sqPending() after enter(2)", rings.sqPending(), 0);
            for (int i = 0; i < 3; i++) {
                rings.pop();
            }
        }
    }

    private static void staysAtMaxOwed() {
        AsyncRings rings = new AsyncRings(16, 2, 0);
        for (int i = 0; i < 40; i++) {
            rings.prep(AsyncRings.OP_NOP, 0, 0, i);
            rings.enter(1);
        }
        check.same("sqPending() at MAX_OWED", rings.sqPending(), 6);
        String before = Snapshot.of(rings);
        check.same("sqPending()", rings.sqPending(), 6);
        check.yes("asking changes nothing", before.equals(Snapshot.of(rings)));
    }

    public static void main(String[] args) {
        countsUpAndDown();
        staysAtMaxOwed();
        check.end();
    }
}
