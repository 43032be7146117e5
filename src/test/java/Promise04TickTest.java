/** Promise 4: tick flushes, counts down, executes what is due, and answers how many requests were posted. */
public final class Promise04TickTest {
    private static final Check check = new Check();
    private static final int NOP = AsyncRings.OP_NOP;
    private static final int READ = AsyncRings.OP_READ;
    private static final int WRITE = AsyncRings.OP_WRITE;
    private static final int CMP = AsyncRings.OP_CMP;
    private static final int TIMEOUT = AsyncRings.OP_TIMEOUT;
    private static final int CANCEL = AsyncRings.OP_CANCEL;
    private static final int LINK = AsyncRings.FLAG_LINK;
    private static final int CANCELED = AsyncRings.ERR_CANCELED;

    private static void nothingIsDue() {
        AsyncRings rings = new AsyncRings(4, 4, 3);
        check.same("tick() on a new object", rings.tick(), 0);
        rings.prep(READ + LINK, 0, 0, 1);
        rings.prep(NOP, 0, 0, 2);
        rings.enter(2);
        rings.prep(NOP, 0, 0, 3);
        check.same("tick()", rings.tick(), 0);
        // The WAITING successor has no ticks to lower, and the SQ is left alone.
        check.live("after a tick", rings, 1, 5, 2, 0);
        check.same("sqPending()", rings.sqPending(), 1);
        check.completions("after a tick", rings, 0);
    }

    private static void longestTimer() {
        AsyncRings rings = new AsyncRings(4, 4, 1);
        rings.prep(TIMEOUT, 16, 0, 1);
        rings.prep(TIMEOUT, 1, 0, 2);
        rings.enter(2);
        check.same("tick 1", rings.tick(), 1);
        for (int i = 2; i <= 15; i++) {
            check.same("tick " + i, rings.tick(), 0);
            check.live("tick " + i, rings, 1, 2 * (16 - i));
        }
        check.same("tick 16", rings.tick(), 1);
        check.completions("after 16 ticks", rings, 0, 2, 0, 1, 0);
    }

    private static void effectComesAtTheEnd() {
        AsyncRings rings = new AsyncRings(8, 8, 2);
        rings.setBuffer(0, 1);
        rings.prep(WRITE, 3, 0, 1);
        rings.enter(1);
        rings.setBuffer(0, 2);
        rings.tick();
        check.same("getBlock(3) before its time", rings.getBlock(3), 0);
        rings.prep(READ, 3, 1, 2);
        rings.enter(1);
        rings.setBuffer(0, 3);
        check.same("tick()", rings.tick(), 1);
        check.same("getBlock(3)", rings.getBlock(3), 3);
        check.same("getBuffer(1) before its time", rings.getBuffer(1), 0);
        check.same("tick()", rings.tick(), 1);
        check.same("getBuffer(1)", rings.getBuffer(1), 3);
    }

    private static void dueOnesGoBySequence() {
        AsyncRings rings = new AsyncRings(8, 8, 1);
        rings.setBuffer(0, 10);
        rings.setBuffer(1, 20);
        rings.prep(TIMEOUT, 2, 0, 1);
        rings.enter(1);
        rings.tick();
        rings.prep(WRITE, 0, 0, 2);
        rings.prep(READ, 0, 5, 3);
        rings.prep(WRITE, 0, 1, 4);
        rings.prep(CMP, 0, 20, 5);
        rings.enter(4);
        check.same("tick()", rings.tick(), 5);
        check.completions("in consumption order", rings, 0, 1, 0, 2, 0, 3, 0, 4, 0, 5, 0);
        check.same("getBuffer(5)", rings.getBuffer(5), 10);
        check.same("getBlock(0)", rings.getBlock(0), 20);
    }

    private static void successorsStartFresh() {
        AsyncRings rings = new AsyncRings(8, 8, 1);
        rings.prep(READ + LINK, 0, 0, 1);
        rings.prep(READ + LINK, 0, 0, 2);
        rings.prep(NOP + LINK, 0, 0, 3);
        rings.prep(TIMEOUT, 1, 0, 4);
        rings.prep(TIMEOUT, 2, 0, 5);
        rings.enter(5);
        check.same("tick 1", rings.tick(), 1);
        check.live("a fresh one is not lowered", rings, 2, 3, 3, 1, 4, 0, 5, 2);
        check.same("tick 2", rings.tick(), 3);
        check.completions("a chain goes on before the next due one", rings, 0, 1, 0, 2, 0, 3, 0, 5, 0);
        check.live("tick 2", rings, 4, 2);
        check.same("tick 3", rings.tick(), 1);
    }

    private static void chainWithoutLatencyEndsInTheTick() {
        AsyncRings rings = new AsyncRings(8, 8, 0);
        rings.setBuffer(0, 4);
        rings.prep(TIMEOUT + LINK, 1, 0, 1);
        rings.prep(WRITE + LINK, 2, 0, 2);
        rings.prep(CMP + LINK, 2, 4, 3);
        rings.prep(9 + LINK, 0, 0, 4);
        rings.prep(WRITE, 3, 0, 5);
        rings.enter(5);
        check.same("tick()", rings.tick(), 5);
        check.completions("after tick", rings, 0, 1, 0, 2, 0, 3, 0, 4, AsyncRings.ERR_INVALID, 5, CANCELED);
        check.same("getBlock(2)", rings.getBlock(2), 4);
        check.same("getBlock(3)", rings.getBlock(3), 0);
    }

    private static void failedChainIsCounted() {
        AsyncRings rings = new AsyncRings(8, 2, 1);
        rings.setBuffer(0, 9);
        rings.prep(CMP + LINK, 0, 5, 1);
        rings.prep(WRITE + LINK, 1, 0, 2);
        rings.prep(TIMEOUT + LINK, 1, 0, 3);
        rings.prep(CANCEL, 1, 0, 4);
        rings.enter(4);
        check.same("tick()", rings.tick(), 4);
        check.completions("after tick", rings, 2, 1, AsyncRings.ERR_MISMATCH, 2, CANCELED, 3, CANCELED, 4, CANCELED);
        check.same("getBlock(1)", rings.getBlock(1), 0);
    }

    private static void cancelStopsWhatIsDue() {
        AsyncRings rings = new AsyncRings(16, 16, 1);
        rings.setBuffer(0, 9);
        rings.prep(TIMEOUT + LINK, 1, 0, 1);
        rings.prep(CANCEL + LINK, 7, 0, 2);
        rings.prep(NOP, 0, 0, 3);
        rings.prep(WRITE + LINK, 1, 0, 7);
        rings.prep(WRITE, 2, 0, 8);
        rings.prep(TIMEOUT, 5, 0, 7);
        rings.prep(WRITE, 4, 0, 9);
        rings.enter(7);
        check.same("tick()", rings.tick(), 7);
        check.completions("after tick", rings, 0, 1, 0, 7, CANCELED, 8, CANCELED, 7, CANCELED, 2, 2, 3, 0, 9, 0);
        check.same("getBlock(1)", rings.getBlock(1), 0);
        check.same("getBlock(2)", rings.getBlock(2), 0);
        check.same("getBlock(4)", rings.getBlock(4), 9);
        check.same("liveCount()", rings.liveCount(), 0);
    }

    private static void cancelReachesBack() {
        AsyncRings rings = new AsyncRings(16, 16, 3);
        rings.prep(TIMEOUT + LINK, 9, 0, 5);
        rings.prep(NOP, 0, 0, 6);
        rings.prep(TIMEOUT + LINK, 1, 0, 7);
        rings.prep(CANCEL + LINK, 5, 0, 8);
        rings.prep(CANCEL + LINK, 7, 0, 9);
        rings.prep(NOP, 0, 0, 10);
        rings.prep(READ, 0, 0, 11);
        rings.enter(7);
        check.same("tick()", rings.tick(), 6);
        // The timer that started the chain is posted before the second cancel looks for its tag.
        check.completions("after tick", rings, 0, 7, 0, 5, CANCELED, 6, CANCELED, 8, 1, 9, AsyncRings.ERR_NOENT,
                10, CANCELED);
        check.live("after tick", rings, 11, 4);
    }

    private static void asManyAsCanBeLive() {
        AsyncRings rings = new AsyncRings(16, 16, 1);
        for (int i = 0; i < 31; i++) {
            rings.prep(TIMEOUT, 2, 0, i % 2);
            rings.enter(1);
        }
        check.same("tick() with 31 live", rings.tick(), 0);
        rings.prep(TIMEOUT, 1, 0, 2);
        check.same("enter(1)", rings.enter(1), 1);
        check.same("liveCount()", rings.liveCount(), 32);
        check.same("tick() with 32 due", rings.tick(), 32);
        check.same("liveCount()", rings.liveCount(), 0);
        check.same("cqReady()", rings.cqReady(), 16);
        check.same("overflowCount()", rings.overflowCount(), 16);
        check.same("cqTag(31)", rings.cqTag(31), 2);
    }

    private static void flushesFirst() {
        AsyncRings rings = new AsyncRings(8, 2, 1);
        for (int i = 1; i <= 4; i++) {
            rings.prep(NOP, 0, 0, i);
        }
        rings.prep(TIMEOUT, 2, 0, 5);
        rings.enter(5);
        check.completions("after enter", rings, 2, 1, 0, 2, 0, 3, 0, 4, 0);
        check.same("tick() with a full CQ", rings.tick(), 0);
        check.completions("no room", rings, 2, 1, 0, 2, 0, 3, 0, 4, 0);
        rings.pop();
        check.same("tick()", rings.tick(), 1);
        check.completions("one moved, one posted", rings, 2, 2, 0, 3, 0, 4, 0, 5, 0);
        rings.pop();
        rings.pop();
        check.same("what was moved is not counted", rings.tick(), 0);
        check.completions("all moved", rings, 0, 4, 0, 5, 0);
    }

    public static void main(String[] args) {
        nothingIsDue();
        longestTimer();
        effectComesAtTheEnd();
        dueOnesGoBySequence();
        successorsStartFresh();
        chainWithoutLatencyEndsInTheTick();
        failedChainIsCounted();
        cancelStopsWhatIsDue();
        cancelReachesBack();
        asManyAsCanBeLive();
        flushesFirst();
        check.end();
    }
}
