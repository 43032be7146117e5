/** Promise 4: tick flushes, counts down, executes what is due, and answers how many requests were posted. */
public final class Promise04TickTest extends Scenes {
    private static void flushComesFirst(Check check) {
        AsyncRings rings = new AsyncRings(8, 2, 0);
        post(rings, 1, 4);
        rings.prep(TIMEOUT, 2, 0, 5);
        rings.prep(TIMEOUT, 3, 0, 6);
        rings.enter(2);
        rings.tick();
        check.tagsFrom("no room", rings, 1, 2, 2);
        rings.pop();
        rings.tick();
        check.tagsFrom("one moved, one posted behind the parked ones", rings, 2, 2, 2);
        pops(rings, 2);
        rings.tick();
        check.tagsFrom("two moved, one posted", rings, 4, 2, 1);
        pops(rings, 2);
        rings.tick();
        check.tagsFrom("the last moved", rings, 6, 1, 0);
        rings.pop();
        rings.tick();
        check.tagsFrom("nothing to move", rings, 0, 0, 0);
    }

    private static void everyPendingOneIsLowered(Check check) {
        AsyncRings rings = new AsyncRings(16, 16, 4);
        rings.prep(TIMEOUT + LINK, 16, 0, 1);
        rings.prep(TIMEOUT, 9, 0, 2);
        rings.prep(READ, 0, 0, 3);
        rings.prep(WRITE, 0, 0, 4);
        rings.prep(CMP, 0, 0, 5);
        rings.prep(TIMEOUT, 15, 0, 6);
        rings.enter(6);
        check.live("before", rings, 1, 33, 2, 0, 3, 8, 4, 8, 5, 8, 6, 30);
        rings.tick();
        // The WAITING one has nothing to be lowered.
        check.live("once", rings, 1, 31, 2, 0, 3, 6, 4, 6, 5, 6, 6, 28);
        rings.tick();
        check.live("twice", rings, 1, 29, 2, 0, 3, 4, 4, 4, 5, 4, 6, 26);
        // All of the most there can be.
        AsyncRings most = owing(32, 0);
        for (int left = 15; left >= 1; left--) {
            most.tick();
            check.same("liveState(0)", most.liveState(0), 2 * left);
            check.same("liveState(31)", most.liveState(31), 2 * left);
        }
    }

    private static void aFreshOneIsNotLowered(Check check) {
        for (int latency = 1; latency <= 4; latency++) {
            AsyncRings rings = new AsyncRings(8, 8, latency);
            rings.prep(TIMEOUT + LINK, 1, 0, 1);
            rings.prep(READ + LINK, 0, 0, 2);
            rings.prep(TIMEOUT + LINK, 1, 0, 3);
            rings.prep(TIMEOUT, 16, 0, 4);
            rings.enter(4);
            check.same("tick()", rings.tick(), 1);
            check.live("the read has all its ticks", rings, 2, 2 * latency + 1, 3, 1, 4, 0);
            ticks(rings, latency);
            check.live("the timer of 1 is not due in the same call", rings, 3, 3, 4, 0);
            rings.tick();
            check.live("the timer of 16 has all its ticks", rings, 4, 32);
        }
    }

    private static void theSmallestSequenceGoesFirst(Check check) {
        AsyncRings rings = new AsyncRings(8, 8, 1);
        fillBuffers(rings, 10);
        rings.prep(TIMEOUT + LINK, 3, 0, 1);
        rings.prep(NOP, 0, 0, 2);
        rings.enter(2);
        rings.tick();
        rings.prep(TIMEOUT, 2, 0, 3);
        rings.enter(1);
        rings.tick();
        rings.prep(WRITE, 0, 1, 4);
        rings.prep(READ, 0, 5, 5);
        rings.prep(WRITE, 0, 2, 6);
        rings.prep(CMP, 0, 12, 7);
        rings.prep(TIMEOUT, 2, 0, 8);
        rings.enter(5);
        check.same("tick()", rings.tick(), 7);
        // 2 goes on behind 1 in the same breath, before the next one that is due.
        check.tagsFrom("in the order of consumption", rings, 1, 7, 0);
        check.same("cqResult(6)", rings.cqResult(6), OK);
        check.same("getBuffer(5)", rings.getBuffer(5), 11);
        check.same("getBlock(0)", rings.getBlock(0), 12);
        check.live("what is not due stays", rings, 8, 2);
    }

    private static void whatIsSetOffBelongsToIt(Check check) {
        AsyncRings rings = new AsyncRings(16, 16, 1);
        fillBuffers(rings, 10);
        rings.prep(TIMEOUT + LINK, 9, 0, 7);
        rings.prep(NOP, 0, 0, 8);
        rings.prep(TIMEOUT + LINK, 1, 0, 1);
        rings.prep(CANCEL + LINK, 7, 0, 2);
        rings.prep(READ, 0, 0, 3);
        rings.prep(WRITE + LINK, 1, 1, 7);
        rings.prep(WRITE, 2, 2, 9);
        rings.prep(CMP + LINK, 0, 5, 4);
        rings.prep(WRITE, 3, 3, 5);
        rings.prep(WRITE, 4, 4, 6);
        rings.enter(10);
        check.same("tick()", rings.tick(), 9);
        // The cancel reaches back to one that is not due, and forward to a write that was due and is not executed.
        check.completions("after tick", rings, 0, 1, OK, 7, CANCELED, 8, CANCELED, 7, CANCELED, 9, CANCELED, 2, 2,
                4, MISMATCH, 5, CANCELED, 6, OK);
        check.live("the successor that was started", rings, 3, 2);
        for (int i = 1; i <= 3; i++) {
            check.same("getBlock(" + i + ")", rings.getBlock(i), 0);
        }
        check.same("getBlock(4)", rings.getBlock(4), 14);
    }

    private static void theAnswerLeavesOutTheFlush(Check check) {
        AsyncRings rings = new AsyncRings(8, 3, 0);
        post(rings, 1, 6);
        rings.prep(TIMEOUT, 1, 0, 7);
        rings.prep(TIMEOUT, 2, 0, 8);
        rings.enter(2);
        pops(rings, 2);
        check.same("tick() that moves two and posts one", rings.tick(), 1);
        check.tagsFrom("after it", rings, 3, 3, 2);
        pops(rings, 3);
        check.same("tick() that moves two and posts one", rings.tick(), 1);
        check.tagsFrom("after it", rings, 6, 3, 0);
        check.same("tick() with nothing left", rings.tick(), 0);
    }

    private static void everyPostIsCounted(Check check) {
        for (int c = 2; c <= 16; c++) {
            AsyncRings rings = new AsyncRings(16, c, 0);
            rings.prep(TIMEOUT + LINK, 1, 0, 1);
            rings.prep(NOP + LINK, 0, 0, 2);
            rings.prep(CANCEL + LINK, 50, 0, 3);
            rings.prep(CMP + LINK, 0, 1, 4);
            rings.prep(NOP + LINK, 0, 0, 5);
            rings.prep(NOP, 0, 0, 6);
            rings.prep(TIMEOUT + LINK, 9, 0, 50);
            rings.prep(NOP, 0, 0, 51);
            rings.prep(TIMEOUT, 1, 0, 7);
            rings.enter(9);
            check.same("tick() with a CQ of " + c, rings.tick(), 9);
            check.same("overflowCount() with a CQ of " + c, rings.overflowCount(), Math.max(0, 9 - c));
        }
        AsyncRings most = owing(32, 0);
        ticks(most, 15);
        check.same("tick() with 32 due", most.tick(), 32);
        check.tagsFrom("32 at once", most, 1001, 2, 30);
    }

    private static void withoutADueOneItOnlyCountsDown(Check check) {
        check.same("tick() on a new object", new AsyncRings(2, 2, 0).tick(), 0);
        AsyncRings rings = busy();
        String memory = Snapshot.memory(rings);
        check.same("tick()", rings.tick(), 0);
        check.tagsFrom("one moved", rings, 32, 3, 2);
        check.live("lowered", rings, 41, 17, 42, 1, 43, 0, 44, 2);
        check.same("sqPending()", rings.sqPending(), 3);
        check.yes("the memory is as before", memory.equals(Snapshot.memory(rings)));
        // Nothing live: any number of ticks changes nothing.
        AsyncRings idle = new AsyncRings(4, 4, 1);
        post(idle, 1, 2);
        String before = Snapshot.of(idle);
        for (int i = 0; i < 40; i++) {
            check.same("tick() with nothing live", idle.tick(), 0);
        }
        check.shows("after 40 ticks", idle, before);
    }

    private static void noEntryIsConsumed(Check check) {
        AsyncRings rings = new AsyncRings(3, 4, 1);
        rings.prep(TIMEOUT, 1, 0, 1);
        rings.enter(1);
        for (int i = 2; i <= 4; i++) {
            rings.prep(NOP, 0, 0, i);
        }
        check.same("tick() that posts", rings.tick(), 1);
        check.same("sqPending()", rings.sqPending(), 3);
        for (int i = 0; i < 20; i++) {
            check.same("tick()", rings.tick(), 0);
            check.same("sqPending()", rings.sqPending(), 3);
            check.live("after tick", rings);
        }
        rings.enter(3);
        check.tagsFrom("the entries were left as they are", rings, 1, 4, 0);
    }

    private static void onlyATickLetsTimePass(Check check) {
        AsyncRings rings = new AsyncRings(4, 4, 2);
        rings.prep(TIMEOUT, 16, 0, 1);
        rings.prep(READ, 0, 0, 2);
        rings.enter(2);
        for (int i = 0; i < 20; i++) {
            rings.prep(NOP, 0, 0, 3);
            rings.enter(1);
            rings.pop();
            rings.setBuffer(0, i);
        }
        check.live("no time has passed", rings, 1, 32, 2, 4);
        // The ticks are lowered before it is looked for what is due: a read of two ends in the second call.
        check.same("the first tick()", rings.tick(), 0);
        check.live("one unit has passed", rings, 1, 30, 2, 2);
        check.same("the second tick()", rings.tick(), 1);
        check.live("two units have passed", rings, 1, 28);
        // The list is flushed first: its completions stay ahead of the one that this call posts.
        AsyncRings flushed = new AsyncRings(4, 2, 0);
        flushed.prep(TIMEOUT, 1, 0, 4);
        flushed.enter(1);
        post(flushed, 1, 3);
        pops(flushed, 2);
        check.same("tick() with one parked", flushed.tick(), 1);
        check.tagsFrom("in the order of posting", flushed, 3, 2, 0);
    }

    public static void main(String[] args) {
        Check check = new Check("Promise 4");
        check.sentence("tick() is one unit of time passing. It does the following, in this order.",
                Promise04TickTest::onlyATickLetsTimePass);
        check.sentence("1. FLUSH.", Promise04TickTest::flushComesFirst);
        check.sentence("Every request that is live and PENDING at this moment has its remaining ticks lowered by 1.",
                Promise04TickTest::everyPendingOneIsLowered);
        check.sentence("Requests that become PENDING later in this call are not lowered.",
                Promise04TickTest::aFreshOneIsNotLowered);
        check.sentence("Repeat while some live PENDING request has 0 remaining ticks: take the one of those (with 0"
                + " remaining ticks) that has the smallest sequence number and EXECUTE it, with everything it sets"
                + " off.", Promise04TickTest::theSmallestSequenceGoesFirst);
        check.sentence("That includes successors started, cancels, and chain cancellations.",
                Promise04TickTest::whatIsSetOffBelongsToIt);
        check.sentence("Answers the number of POSTs done in step 3.", Promise04TickTest::theAnswerLeavesOutTheFlush);
        check.sentence("This counts every request posted there, whether its completion went into the CQ or onto the"
                + " overflow list, including chain members posted with ERR_CANCELED and cancel targets.",
                Promise04TickTest::everyPostIsCounted);
        check.sentence("If no request reaches 0, the answer is 0 and only steps 1 and 2 have effect.",
                Promise04TickTest::withoutADueOneItOnlyCountsDown);
        check.sentence("tick consumes no SQ entries.", Promise04TickTest::noEntryIsConsumed);
        check.end();
    }
}
