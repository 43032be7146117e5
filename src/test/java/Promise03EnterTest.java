/** Promise 3: enter flushes, consumes, links and starts, in this order. */
public final class Promise03EnterTest {
    private static final Check check = new Check();
    private static final int NOP = AsyncRings.OP_NOP;
    private static final int READ = AsyncRings.OP_READ;
    private static final int WRITE = AsyncRings.OP_WRITE;
    private static final int CMP = AsyncRings.OP_CMP;
    private static final int TIMEOUT = AsyncRings.OP_TIMEOUT;
    private static final int CANCEL = AsyncRings.OP_CANCEL;
    private static final int LINK = AsyncRings.FLAG_LINK;
    private static final int INVALID = AsyncRings.ERR_INVALID;
    private static final int CANCELED = AsyncRings.ERR_CANCELED;

    private static void takesAtMostN() {
        AsyncRings rings = new AsyncRings(8, 8, 0);
        for (int i = 1; i <= 6; i++) {
            rings.prep(NOP, 0, 0, i);
        }
        String before = Snapshot.of(rings);
        check.same("enter(0)", rings.enter(0), 0);
        check.same("enter(-1)", rings.enter(-1), 0);
        check.same("enter(MIN_VALUE)", rings.enter(Integer.MIN_VALUE), 0);
        check.yes("enter with n <= 0 takes nothing", before.equals(Snapshot.of(rings)));
        check.same("enter(1)", rings.enter(1), 1);
        check.same("enter(2)", rings.enter(2), 2);
        check.completions("after three", rings, 0, 1, 0, 2, 0, 3, 0);
        check.same("sqPending()", rings.sqPending(), 3);
        check.same("enter(MAX_VALUE)", rings.enter(Integer.MAX_VALUE), 3);
        check.same("enter on an empty ring", rings.enter(4), 0);
    }

    private static void flushesFirst() {
        AsyncRings rings = new AsyncRings(8, 2, 0);
        for (int i = 1; i <= 5; i++) {
            rings.prep(NOP, 0, 0, i);
        }
        rings.enter(5);
        check.completions("five posted", rings, 3, 1, 0, 2, 0, 3, 0, 4, 0, 5, 0);
        rings.pop();
        // With nothing to consume there is still a flush, only as far as the CQ has room.
        check.same("enter(0)", rings.enter(0), 0);
        check.completions("one moved", rings, 2, 2, 0, 3, 0, 4, 0, 5, 0);
        rings.pop();
        rings.pop();
        rings.prep(NOP, 0, 0, 6);
        check.same("enter(1)", rings.enter(1), 1);
        check.completions("flushed before the new one", rings, 1, 4, 0, 5, 0, 6, 0);
        rings.pop();
        rings.prep(NOP, 0, 0, 7);
        rings.enter(1);
        check.completions("parked ones stay ahead", rings, 1, 5, 0, 6, 0, 7, 0);
        check.same("enter(-3)", rings.enter(-3), 0);
        rings.pop();
        check.same("enter(-3)", rings.enter(-3), 0);
        check.completions("a negative n flushes too", rings, 0, 6, 0, 7, 0);
    }

    private static void stopsAtMaxOwed() {
        AsyncRings rings = new AsyncRings(16, 2, 1);
        for (int i = 0; i < 32; i++) {
            rings.prep(TIMEOUT, 16, 0, i);
            check.same("enter number " + i, rings.enter(1), 1);
        }
        rings.prep(NOP, 0, 0, 100);
        rings.prep(NOP, 0, 0, 101);
        check.same("enter(5) with 32 live", rings.enter(5), 0);
        check.same("sqPending()", rings.sqPending(), 2);
        check.same("liveCount()", rings.liveCount(), 32);
    }

    private static void parkedOnesAreOwed() {
        AsyncRings rings = new AsyncRings(16, 2, 1);
        for (int i = 0; i < 12; i++) {
            rings.prep(NOP, 0, 0, i);
        }
        rings.enter(12);
        check.same("overflowCount()", rings.overflowCount(), 10);
        for (int i = 0; i < 16; i++) {
            rings.prep(TIMEOUT, 16, 0, 50 + i);
        }
        check.same("enter(16)", rings.enter(16), 16);
        for (int i = 0; i < 16; i++) {
            rings.prep(i == 5 ? NOP : TIMEOUT + LINK, 10, 0, 70 + i);
        }
        // 10 parked and 16 live: six more, and the link of the sixth reaches nobody.
        check.same("enter(16)", rings.enter(16), 6);
        check.same("live and parked", rings.liveCount() + rings.overflowCount(), 32);
        check.same("liveState of the one before the last", rings.liveState(20), 1);
        check.same("liveState of the last", rings.liveState(21), 0);
        check.same("enter(1) at MAX_OWED", rings.enter(1), 0);
        rings.pop();
        // The flush of enter itself makes the room: 31 owed, one more is taken, and its link is ignored.
        check.same("enter(16) at MAX_OWED - 1", rings.enter(16), 1);
        check.same("liveTag of the last", rings.liveTag(22), 76);
        check.same("liveState of the last", rings.liveState(22), 20);
        check.same("overflowCount()", rings.overflowCount(), 9);
    }

    private static void noneIsDroppedAtTheLimit() {
        AsyncRings rings = new AsyncRings(16, 16, 0);
        int written = 0;
        for (int i = 0; i < 60; i++) {
            if (rings.prep(NOP, 0, 0, 1000 + written)) {
                written++;
            }
            rings.enter(1);
        }
        check.same("cqReady()", rings.cqReady(), 16);
        check.same("overflowCount()", rings.overflowCount(), 32);
        for (int k = 0; k < 48; k++) {
            check.same("cqTag(" + k + ")", rings.cqTag(k), 1000 + k);
        }
        check.same("cqTag(48)", rings.cqTag(48), 0);
        check.same("sqPending()", rings.sqPending(), 12);
        // The queue goes round its end without losing anything.
        for (int k = 0; k < 200; k++) {
            check.same("oldest tag", rings.cqTag(0), 1000 + k);
            check.yes("pop()", rings.pop());
            rings.enter(1);
            rings.prep(NOP, 0, 0, 1000 + written);
            written++;
        }
    }

    private static void linksMakeChains() {
        AsyncRings rings = new AsyncRings(16, 16, 2);
        rings.prep(TIMEOUT + LINK, 3, 0, 1);
        rings.prep(NOP + LINK, 0, 0, 2);
        rings.prep(READ, 0, 0, 3);
        rings.prep(NOP, 0, 0, 4);
        rings.prep(NOP + LINK, 0, 0, 5);
        rings.prep(WRITE + LINK, 0, 0, 6);
        check.same("enter(6)", rings.enter(6), 6);
        check.completions("heads that end at once", rings, 0, 4, 0, 5, 0);
        // 6 is the last one of the call: its link is ignored.
        check.live("the rest", rings, 1, 7, 2, 1, 3, 0, 6, 4);
        rings.prep(NOP, 0, 0, 7);
        rings.enter(1);
        check.completions("no link across calls", rings, 0, 4, 0, 5, 0, 7, 0);
    }

    private static void linkEndsWithTheCall() {
        AsyncRings rings = new AsyncRings(8, 8, 2);
        rings.prep(CMP + LINK, 0, 1, 1);
        rings.prep(NOP + LINK, 0, 0, 2);
        rings.prep(NOP, 0, 0, 3);
        check.same("enter(1)", rings.enter(1), 1);
        check.live("alone", rings, 1, 4);
        check.same("enter(2)", rings.enter(2), 2);
        check.completions("the others run at once", rings, 0, 2, 0, 3, 0);
        rings.tick();
        check.same("tick()", rings.tick(), 1);
        check.completions("the mismatch takes nobody along", rings, 0, 2, 0, 3, 0, 1, AsyncRings.ERR_MISMATCH);
    }

    private static void chainRunsAtOnceWithoutLatency() {
        AsyncRings rings = new AsyncRings(8, 8, 0);
        rings.setBuffer(0, 6);
        rings.prep(WRITE + LINK, 1, 0, 1);
        rings.prep(CMP + LINK, 1, 6, 2);
        rings.prep(READ + LINK, 1, 2, 3);
        rings.prep(CMP + LINK, 1, 5, 4);
        rings.prep(WRITE + LINK, 2, 0, 5);
        rings.prep(NOP, 0, 0, 6);
        rings.prep(NOP, 0, 0, 7);
        check.same("enter(7)", rings.enter(7), 7);
        check.completions("after enter", rings, 0, 1, 0, 2, 0, 3, 0, 4, AsyncRings.ERR_MISMATCH, 5, CANCELED,
                6, CANCELED, 7, 0);
        check.same("getBuffer(2)", rings.getBuffer(2), 6);
        check.same("getBlock(2)", rings.getBlock(2), 0);
        check.same("liveCount()", rings.liveCount(), 0);
    }

    private static void wrongArguments() {
        int[][] wrong = {
            {READ, -1, 0}, {READ, 16, 0}, {READ, 0, -1}, {READ, 0, 8}, {READ, Integer.MAX_VALUE, Integer.MIN_VALUE},
            {WRITE, -1, 0}, {WRITE, 16, 0}, {WRITE, 0, -1}, {WRITE, 0, 8}, {WRITE, Integer.MIN_VALUE, 0},
            {CMP, -1, 0}, {CMP, 16, 0}, {CMP, Integer.MAX_VALUE, 0}, {CMP, Integer.MIN_VALUE, 0},
            {TIMEOUT, 0, 0}, {TIMEOUT, -1, 0}, {TIMEOUT, 17, 0}, {TIMEOUT, Integer.MAX_VALUE, 0},
            {TIMEOUT, Integer.MIN_VALUE, 0},
            {6, 0, 0}, {7, 0, 0}, {8, 0, 0}, {9, 0, 0}, {10, 0, 0}, {11, 0, 0}, {12, 0, 0}, {13, 0, 0}, {14, 0, 0},
            {15, 0, 0}, {-17, 0, 0},
        };
        for (int latency = 0; latency <= 4; latency++) {
            for (int[] entry : wrong) {
                AsyncRings rings = new AsyncRings(4, 4, latency);
                rings.setBuffer(0, 3);
                String memory = Snapshot.memory(rings);
                rings.prep(entry[0] | LINK, entry[1], entry[2], 1);
                rings.prep(NOP + LINK, 0, 0, 2);
                rings.prep(WRITE, 0, 0, 3);
                rings.enter(3);
                String what = "opcode " + entry[0] + " with " + entry[1] + ", " + entry[2];
                check.completions(what, rings, 0, 1, INVALID, 2, CANCELED, 3, CANCELED);
                check.same(what + ": liveCount()", rings.liveCount(), 0);
                check.yes(what + " touches nothing", memory.equals(Snapshot.memory(rings)));
            }
        }
    }

    private static void rightArgumentsAtTheEdges() {
        int[][] right = {
            {READ, 0, 0, 3}, {READ, 15, 7, 3}, {WRITE, 0, 7, 3}, {WRITE, 15, 0, 3}, {CMP, 0, -1, 3},
            {CMP, 15, Integer.MAX_VALUE, 3}, {CMP, 7, Integer.MIN_VALUE, 3}, {CMP, 7, 8, 3},
            {TIMEOUT, 1, -5, 1}, {TIMEOUT, 16, 99, 16},
        };
        for (int[] entry : right) {
            AsyncRings rings = new AsyncRings(4, 4, 3);
            rings.prep(entry[0], entry[1], entry[2], 1);
            rings.enter(1);
            check.live("opcode " + entry[0] + " with " + entry[1] + ", " + entry[2], rings, 1, 2 * entry[3]);
        }
        // A timer is never immediate, even on a device without latency.
        AsyncRings rings = new AsyncRings(4, 4, 0);
        rings.prep(TIMEOUT, 1, 0, 1);
        rings.enter(1);
        check.live("timer without latency", rings, 1, 2);
    }

    private static void cancelFindsPendingOnes() {
        AsyncRings rings = new AsyncRings(16, 16, 2);
        rings.prep(TIMEOUT + LINK, 9, 0, 5);
        rings.prep(NOP + LINK, 0, 0, 6);
        rings.prep(TIMEOUT, 9, 0, 5);
        rings.prep(READ, 0, 0, 5);
        rings.prep(READ, 0, 0, 7);
        rings.prep(CANCEL + LINK, 5, 0, 8);
        rings.prep(NOP, 0, 0, 9);
        // A head that is not started yet is WAITING, so the cancel before it does not reach it.
        rings.prep(READ, 0, 0, 5);
        check.same("enter(8)", rings.enter(8), 8);
        check.completions("after cancel", rings, 0, 5, CANCELED, 6, CANCELED, 5, CANCELED, 5, CANCELED, 8, 2, 9, 0);
        check.live("after cancel", rings, 7, 4, 5, 4);
    }

    private static void cancelOfAllThatCanBeLive() {
        AsyncRings rings = new AsyncRings(16, 4, 2);
        for (int i = 0; i < 31; i++) {
            rings.prep(TIMEOUT, 16, 0, 5);
            rings.enter(1);
        }
        rings.prep(CANCEL, 5, 0, 6);
        check.same("enter(1) with 31 live", rings.enter(1), 1);
        check.same("liveCount()", rings.liveCount(), 0);
        check.same("cqReady()", rings.cqReady(), 4);
        check.same("overflowCount()", rings.overflowCount(), 28);
        check.same("cqResult(30)", rings.cqResult(30), CANCELED);
        check.same("cqTag(31)", rings.cqTag(31), 6);
        check.same("cqResult(31)", rings.cqResult(31), 31);
    }

    private static void cancelWithoutTarget() {
        AsyncRings rings = new AsyncRings(16, 16, 2);
        rings.prep(TIMEOUT + LINK, 9, 0, 1);
        rings.prep(NOP, 0, 0, 2);
        // 2 is WAITING, 3 is the cancel itself, 4 its own successor: none of them is a target.
        rings.prep(CANCEL, 2, 0, 30);
        rings.prep(CANCEL + LINK, 3, 0, 3);
        rings.prep(WRITE, 0, 0, 4);
        rings.prep(CANCEL + LINK, 4, 0, 31);
        rings.prep(WRITE, 0, 0, 4);
        rings.enter(7);
        int none = AsyncRings.ERR_NOENT;
        check.completions("after enter", rings, 0, 30, none, 3, none, 4, CANCELED, 31, none, 4, CANCELED);
        check.live("after enter", rings, 1, 19, 2, 0);
    }

    private static void cancelsInAChain() {
        AsyncRings rings = new AsyncRings(16, 2, 2);
        rings.prep(READ, 0, 0, -1);
        rings.prep(READ, 0, 0, -2);
        rings.prep(READ, 0, 0, -1);
        rings.enter(3);
        rings.prep(CANCEL + LINK, -1, 0, 10);
        rings.prep(CANCEL + LINK, -2, 0, 11);
        rings.prep(CANCEL + LINK, -2, 0, 12);
        rings.prep(NOP, 0, 0, 13);
        rings.enter(4);
        check.completions("after enter", rings, 5, -1, CANCELED, -1, CANCELED, 10, 2, -2, CANCELED, 11, 1,
                12, AsyncRings.ERR_NOENT, 13, CANCELED);
        check.same("liveCount()", rings.liveCount(), 0);
    }

    private static void headsStartInOrder() {
        AsyncRings rings = new AsyncRings(8, 8, 0);
        rings.setBuffer(0, 1);
        rings.setBuffer(1, 2);
        rings.prep(WRITE + LINK, 0, 0, 1);
        rings.prep(READ, 0, 2, 2);
        rings.prep(WRITE + LINK, 0, 1, 3);
        rings.prep(READ, 0, 3, 4);
        rings.enter(4);
        check.same("getBuffer(2)", rings.getBuffer(2), 1);
        check.same("getBuffer(3)", rings.getBuffer(3), 2);
        check.completions("after enter", rings, 0, 1, 0, 2, 0, 3, 0, 4, 0);
    }

    public static void main(String[] args) {
        takesAtMostN();
        flushesFirst();
        stopsAtMaxOwed();
        parkedOnesAreOwed();
        noneIsDroppedAtTheLimit();
        linksMakeChains();
        linkEndsWithTheCall();
        chainRunsAtOnceWithoutLatency();
        wrongArguments();
        rightArgumentsAtTheEdges();
        cancelFindsPendingOnes();
        cancelOfAllThatCanBeLive();
        cancelWithoutTarget();
        cancelsInAChain();
        headsStartInOrder();
        check.end();
    }
}
