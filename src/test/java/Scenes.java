/** What the tests of the sentences share: short names, and objects brought into the state that a test begins with. */
abstract class Scenes {
    static final int NOP = AsyncRings.OP_NOP;
    static final int READ = AsyncRings.OP_READ;
    static final int WRITE = AsyncRings.OP_WRITE;
    static final int CMP = AsyncRings.OP_CMP;
    static final int TIMEOUT = AsyncRings.OP_TIMEOUT;
    static final int CANCEL = AsyncRings.OP_CANCEL;
    static final int LINK = AsyncRings.FLAG_LINK;

    static final int OK = AsyncRings.RES_OK;
    static final int NOENT = AsyncRings.ERR_NOENT;
    static final int INVALID = AsyncRings.ERR_INVALID;
    static final int MISMATCH = AsyncRings.ERR_MISMATCH;
    static final int CANCELED = AsyncRings.ERR_CANCELED;

    static final int MIN = Integer.MIN_VALUE;
    static final int MAX = Integer.MAX_VALUE;

    /** Lets that many requests be consumed and posted, one by one, with the tags firstTag, firstTag + 1, .. */
    static void post(AsyncRings rings, int firstTag, int count) {
        for (int i = 0; i < count; i++) {
            rings.prep(NOP, 0, 0, firstTag + i);
            rings.enter(1);
        }
    }

    /** Lets that many timers of the greatest length begin, one by one, with the tags firstTag, firstTag + 1, .. */
    static void timers(AsyncRings rings, int firstTag, int count) {
        for (int i = 0; i < count; i++) {
            rings.prep(TIMEOUT, 16, 0, firstTag + i);
            rings.enter(1);
        }
    }

    /** An object with a CQ of two, full if something is parked, that owes so many live and so many parked ones. */
    static AsyncRings owing(int live, int parked) {
        AsyncRings rings = new AsyncRings(16, 2, 0);
        timers(rings, 1001, live);
        post(rings, 1, parked == 0 ? 0 : 2 + parked);
        return rings;
    }

    static void pops(AsyncRings rings, int count) {
        for (int i = 0; i < count; i++) {
            rings.pop();
        }
    }

    static void ticks(AsyncRings rings, int count) {
        for (int i = 0; i < count; i++) {
            rings.tick();
        }
    }

    static void fillBuffers(AsyncRings rings, int first) {
        for (int i = 0; i < 8; i++) {
            rings.setBuffer(i, first + i);
        }
    }

    /** Writes first, first + 1, .. into the blocks, and takes the completions away. */
    static void fillBlocks(AsyncRings rings, int first) {
        for (int i = 0; i < 16; i++) {
            rings.setBuffer(0, first + i);
            rings.prep(WRITE, i, 0, 1);
            rings.enter(1);
            ticks(rings, 4);
            rings.pop();
        }
    }

    /**
     * An object in the middle of its work, where nothing is empty or full: 3 entries in an SQ of 5, 2 completions in a
     * CQ of 3, 3 parked ones for which a flush would have room, 4 live requests, and other values in all of the memory.
     */
    static AsyncRings busy() {
        AsyncRings rings = new AsyncRings(5, 3, 2);
        fillBlocks(rings, 500);
        fillBuffers(rings, 10);
        rings.prep(TIMEOUT + LINK, 9, 0, 41);
        rings.prep(WRITE + LINK, 1, 2, 42);
        rings.prep(READ, 3, 4, 43);
        rings.enter(3);
        rings.prep(WRITE, 5, 6, 44);
        rings.enter(1);
        post(rings, 31, 6);
        rings.pop();
        rings.prep(CMP + LINK, 0, 500, 51);
        rings.prep(WRITE, 7, 7, 52);
        rings.prep(42, -1, MIN, 53);
        return rings;
    }

    /** All that busy() made is there, in plain values: a question that changes something cannot hide behind another. */
    static void stillBusy(Check check, String when, AsyncRings rings) {
        check.same(when + ": sqPending()", rings.sqPending(), 3);
        check.completions(when, rings, 3, 32, OK, 33, OK, 34, OK, 35, OK, 36, OK);
        check.live(when, rings, 41, 19, 42, 1, 43, 0, 44, 4);
        for (int i = 0; i < 8; i++) {
            check.same(when + ": getBuffer(" + i + ")", rings.getBuffer(i), 10 + i);
        }
        for (int i = 0; i < 16; i++) {
            check.same(when + ": getBlock(" + i + ")", rings.getBlock(i), 500 + i);
        }
    }

    /** A question that has been put to the object of busy() some times over has changed nothing, seen or unseen. */
    static void onlyAsked(Check check, String what, AsyncRings rings) {
        stillBusy(check, "after " + what, rings);
        check.alike("after " + what, rings, busy());
    }
}
