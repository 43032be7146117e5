/** Promise 6: cqReady and overflowCount tell where the completions are. */
public final class Promise06CountsTest extends Scenes {
    private static void readyIsTheNumberInTheRing(Check check) {
        AsyncRings rings = new AsyncRings(4, 3, 2);
        check.same("cqReady() of a new object", rings.cqReady(), 0);
        rings.prep(NOP, 0, 0, 1);
        check.same("cqReady() after prep", rings.cqReady(), 0);
        rings.prep(READ, 0, 0, 2);
        rings.enter(2);
        check.same("cqReady() with one posted and one live", rings.cqReady(), 1);
        ticks(rings, 2);
        check.same("cqReady() with both posted", rings.cqReady(), 2);
        post(rings, 3, 3);
        check.same("cqReady() of a full CQ", rings.cqReady(), 3);
        rings.pop();
        check.same("cqReady() after pop", rings.cqReady(), 2);
        rings.tick();
        check.same("cqReady() after a flush", rings.cqReady(), 3);
    }

    private static void readyIsBetweenZeroAndC(Check check) {
        for (int c = 2; c <= 16; c++) {
            AsyncRings rings = new AsyncRings(4, c, 0);
            for (int posted = 0; posted <= c + 32; posted++) {
                check.same("cqReady() of " + c + " after " + posted, rings.cqReady(), Math.min(posted, c));
                post(rings, 1, 1);
            }
            // At the limit nothing more comes in, and popping to the end goes no further than 0.
            check.same("cqReady() at its most", rings.cqReady(), c);
            for (int popped = 1; popped <= c + 3; popped++) {
                rings.pop();
                check.same("cqReady() of " + c + " after pop " + popped, rings.cqReady(), Math.max(0, c - popped));
            }
        }
    }

    private static void overflowIsTheNumberParked(Check check) {
        for (int c = 2; c <= 16; c++) {
            AsyncRings rings = new AsyncRings(4, c, 0);
            for (int posted = 0; posted <= c + 32; posted++) {
                check.same("overflowCount() of " + c, rings.overflowCount(), Math.max(0, posted - c));
                post(rings, 1, 1);
            }
            check.same("overflowCount() at its most", rings.overflowCount(), 32);
            rings.pop();
            check.same("overflowCount() after pop", rings.overflowCount(), 32);
            rings.tick();
            check.same("overflowCount() after a flush of one", rings.overflowCount(), 31);
            for (int i = 0; i < 40; i++) {
                rings.pop();
                rings.tick();
                check.same("overflowCount() to the end", rings.overflowCount(), Math.max(0, 30 - i));
            }
        }
    }

    private static void askingChangesNothing(Check check) {
        AsyncRings rings = busy();
        for (int i = 0; i < 5; i++) {
            check.same("cqReady()", rings.cqReady(), 2);
        }
        onlyAsked(check, "cqReady()", rings);
        AsyncRings other = busy();
        for (int i = 0; i < 5; i++) {
            check.same("overflowCount()", other.overflowCount(), 3);
        }
        onlyAsked(check, "overflowCount()", other);
    }

    public static void main(String[] args) {
        Check check = new Check("Promise 6");
        check.sentence("cqReady() answers cqTail - cqHead, the number of completions in the CQ.",
                Promise06CountsTest::readyIsTheNumberInTheRing);
        check.sentence("It is always between 0 and C.", Promise06CountsTest::readyIsBetweenZeroAndC);
        check.sentence("overflowCount() answers the number of completions in the overflow list.",
                Promise06CountsTest::overflowIsTheNumberParked);
        check.sentence("Neither changes anything.", Promise06CountsTest::askingChangesNothing);
        check.end();
    }
}
