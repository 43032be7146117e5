/** Promise 5: pop takes the oldest completion out of the CQ and does nothing else. */
public final class Promise05PopTest {
    private static final Check check = new Check();

    private static AsyncRings withCompletions(int count) {
        AsyncRings rings = new AsyncRings(16, 3, 1);
        for (int i = 1; i <= count; i++) {
            rings.prep(AsyncRings.OP_NOP, 0, 0, i);
        }
        rings.enter(count);
        return rings;
    }

    private static void emptyRing() {
        AsyncRings rings = withCompletions(0);
        String before = Snapshot.of(rings);
        check.no("pop() on a new object", rings.pop());
        check.no("pop() again", rings.pop());
        check.yes("a refused pop changes nothing", before.equals(Snapshot.of(rings)));
        rings.prep(AsyncRings.OP_NOP, 0, 0, 9);
        rings.enter(1);
        check.completions("after refused pops", rings, 0, 9, 0);
        check.yes("pop()", rings.pop());
        check.no("pop()", rings.pop());
    }

    private static void parkedOnesAreNotReached() {
        AsyncRings rings = withCompletions(5);
        for (int i = 1; i <= 3; i++) {
            check.same("cqTag(0)", rings.cqTag(0), i);
            check.yes("pop()", rings.pop());
            check.same("cqReady()", rings.cqReady(), 3 - i);
            check.same("overflowCount()", rings.overflowCount(), 2);
        }
        String before = Snapshot.of(rings);
        check.no("pop() with parked completions alone", rings.pop());
        check.yes("a refused pop changes nothing", before.equals(Snapshot.of(rings)));
        check.completions("still parked", rings, 2, 4, 0, 5, 0);
        rings.tick();
        check.completions("moved by tick", rings, 0, 4, 0, 5, 0);
        check.yes("pop()", rings.pop());
        check.completions("the last", rings, 0, 5, 0);
    }

    private static void nothingElseChanges() {
        AsyncRings rings = withCompletions(5);
        rings.setBuffer(3, 8);
        rings.prep(AsyncRings.OP_WRITE, 1, 3, 20);
        rings.enter(1);
        rings.prep(AsyncRings.OP_NOP, 0, 0, 21);
        String memory = Snapshot.memory(rings);
        check.yes("pop()", rings.pop());
        check.same("sqPending()", rings.sqPending(), 1);
        check.live("after pop", rings, 20, 2);
        check.yes("memory after pop", memory.equals(Snapshot.memory(rings)));
        check.completions("after pop", rings, 2, 2, 0, 3, 0, 4, 0, 5, 0);
    }

    public static void main(String[] args) {
        emptyRing();
        parkedOnesAreNotReached();
        nothingElseChanges();
        check.end();
    }
}
