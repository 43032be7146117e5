/** Promise 8: sqPending counts what prep has written and enter has not yet consumed. */
public final class Promise08SqPendingTest extends Scenes {
    private static void writtenAndNotConsumed(Check check) {
        AsyncRings rings = new AsyncRings(6, 2, 1);
        check.same("sqPending() of a new object", rings.sqPending(), 0);
        for (int round = 0; round < 10; round++) {
            rings.prep(NOP, 0, 0, 1);
            rings.prep(READ, -1, -1, 2);
            rings.prep(TIMEOUT, 1, 0, 3);
            rings.prep(15 + LINK, 0, 0, 4);
            rings.prep(NOP, 0, 0, 5);
            check.same("sqPending() after five", rings.sqPending(), 5);
            check.same("enter(2)", rings.enter(2), 2);
            check.same("sqPending() after enter(2)", rings.sqPending(), 3);
            rings.tick();
            rings.pop();
            rings.enter(0);
            rings.enter(-4);
            check.same("sqPending() after tick, pop, enter(0) and enter(-4)", rings.sqPending(), 3);
            check.same("enter(9)", rings.enter(9), 3);
            check.same("sqPending() after enter(9)", rings.sqPending(), 0);
            for (int i = 0; i < 5; i++) {
                rings.tick();
                rings.pop();
            }
        }
        // What cannot be consumed because of MAX_OWED still counts.
        AsyncRings owing = owing(20, 12);
        for (int i = 1; i <= 16; i++) {
            owing.prep(NOP, 0, 0, i);
            owing.enter(1);
            check.same("sqPending() at MAX_OWED", owing.sqPending(), i);
        }
    }

    private static void betweenZeroAndSAndUnchanged(Check check) {
        for (int s = 2; s <= 16; s++) {
            AsyncRings rings = new AsyncRings(s, 16, 0);
            rings.enter(5);
            check.same("sqPending() after enter on an empty SQ", rings.sqPending(), 0);
            for (int i = 1; i <= s + 3; i++) {
                rings.prep(NOP, 0, 0, i);
                check.same("sqPending() of " + s + " after prep " + i, rings.sqPending(), Math.min(s, i));
            }
            for (int i = 1; i <= s + 3; i++) {
                rings.enter(1);
                check.same("sqPending() of " + s + " after enter " + i, rings.sqPending(), Math.max(0, s - i));
            }
        }
        AsyncRings asked = busy();
        for (int i = 0; i < 5; i++) {
            check.same("sqPending()", asked.sqPending(), 3);
        }
        onlyAsked(check, "sqPending()", asked);
    }

    public static void main(String[] args) {
        Check check = new Check("Promise 8");
        check.sentence("sqPending() answers sqTail - sqHead: the entries written by prep but not yet consumed by"
                + " enter.", Promise08SqPendingTest::writtenAndNotConsumed);
        check.sentence("It is always between 0 and S, and it changes nothing.",
                Promise08SqPendingTest::betweenZeroAndSAndUnchanged);
        check.end();
    }
}
