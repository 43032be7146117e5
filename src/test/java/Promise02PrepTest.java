/** Promise 2: prep writes one entry as given, or answers false when the ring is full. */
public final class Promise02PrepTest {
    private static final Check check = new Check();

    private static void fullRingTakesNothing() {
        for (int size = AsyncRings.SQ_MIN; size <= AsyncRings.SQ_MAX; size++) {
            AsyncRings rings = new AsyncRings(size, 16, 0);
            for (int i = 0; i < size; i++) {
                check.yes("prep number " + i + " of " + size, rings.prep(AsyncRings.OP_NOP, 0, 0, 100 + i));
                check.same("sqPending()", rings.sqPending(), i + 1);
            }
            String before = Snapshot.of(rings);
            check.no("prep on a full ring of " + size, rings.prep(AsyncRings.OP_NOP, 0, 0, 999));
            check.yes("a refused prep changes nothing", before.equals(Snapshot.of(rings)));
            check.same("enter(100)", rings.enter(100), size);
            for (int i = 0; i < size; i++) {
                check.same("cqTag(" + i + ")", rings.cqTag(i), 100 + i);
            }
        }
    }

    private static void ringGoesRound() {
        for (int size = AsyncRings.SQ_MIN; size <= AsyncRings.SQ_MAX; size++) {
            AsyncRings rings = new AsyncRings(size, 2, 0);
            int written = 0;
            int seen = 0;
            for (int round = 0; round < 50; round++) {
                while (rings.prep(AsyncRings.OP_NOP, 0, 0, written + 1)) {
                    written++;
                }
                check.same("sqPending()", rings.sqPending(), size);
                check.same("enter(1)", rings.enter(1), 1);
                check.same("cqTag(0)", rings.cqTag(0), seen + 1);
                check.yes("pop()", rings.pop());
                seen++;
            }
        }
    }

    private static void anyValueIsTaken() {
        int[] any = {Integer.MIN_VALUE, -1, 0, 1, 6, 15, 31, 32, Integer.MAX_VALUE};
        for (int value : any) {
            AsyncRings rings = new AsyncRings(2, 2, 1);
            check.yes("prep with " + value + " everywhere", rings.prep(value, value, value, value));
            check.same("enter(1)", rings.enter(1), 1);
            check.same("requests that stand for the entry", rings.liveCount() + rings.cqReady(), 1);
            int tag = rings.liveCount() == 1 ? rings.liveTag(0) : rings.cqTag(0);
            check.same("the tag that was given", tag, value);
        }
    }

    private static void entriesAreKeptAsGiven() {
        AsyncRings rings = new AsyncRings(4, 8, 0);
        rings.setBuffer(5, 77);
        rings.prep(AsyncRings.OP_WRITE, 9, 5, 1);
        rings.prep(AsyncRings.OP_CMP, 9, 77, 2);
        rings.prep(AsyncRings.OP_READ, 9, 3, 3);
        // Bits above the link flag mean nothing.
        rings.prep(0xFFFFFFE0 | AsyncRings.OP_CMP, 9, 78, 4);
        rings.enter(4);
        check.completions("after enter", rings, 0, 1, 0, 2, 0, 3, 0, 4, AsyncRings.ERR_MISMATCH);
        check.same("getBlock(9)", rings.getBlock(9), 77);
        check.same("getBuffer(3)", rings.getBuffer(3), 77);
    }

    private static void nothingElseChanges() {
        AsyncRings rings = new AsyncRings(8, 2, 2);
        rings.setBuffer(1, 5);
        for (int i = 0; i < 3; i++) {
            rings.prep(AsyncRings.OP_NOP, 0, 0, 10 + i);
        }
        rings.prep(AsyncRings.OP_TIMEOUT, 5, 0, 20);
        rings.enter(4);
        rings.pop();
        String before = Snapshot.of(rings);
        check.yes("prep", rings.prep(AsyncRings.OP_WRITE, 0, 1, 30));
        check.yes("prep", rings.prep(AsyncRings.OP_CANCEL, 20, 0, 31));
        check.yes("prep changes sqPending alone",
                before.replace("sq 0", "sq 2").equals(Snapshot.of(rings)));
        rings.tick();
        check.same("sqPending() after tick", rings.sqPending(), 2);
    }

    public static void main(String[] args) {
        fullRingTakesNothing();
        ringGoesRound();
        anyValueIsTaken();
        entriesAreKeptAsGiven();
        nothingElseChanges();
        check.end();
    }
}
