/** Promise 3: enter flushes, consumes, links and starts, in this order. */
public final class Promise03EnterTest extends Scenes {
    private static void flushComesFirst(Check check) {
        AsyncRings rings = new AsyncRings(4, 3, 0);
        post(rings, 1, 5);
        pops(rings, 2);
        rings.prep(NOP, 0, 0, 6);
        check.same("enter(1)", rings.enter(1), 1);
        check.tagsFrom("the parked ones stay ahead of the new one", rings, 3, 3, 1);
        pops(rings, 3);
        rings.prep(NOP, 0, 0, 7);
        rings.enter(1);
        check.tagsFrom("all parked ones moved", rings, 6, 2, 0);
        // The room that the flush makes counts already for what is consumed.
        AsyncRings owing = owing(4, 28);
        owing.prep(NOP, 0, 0, 31);
        owing.prep(NOP, 0, 0, 32);
        owing.prep(NOP, 0, 0, 33);
        check.same("enter(3) at MAX_OWED", owing.enter(3), 0);
        pops(owing, 2);
        check.same("enter(3) with room for two in the CQ", owing.enter(3), 2);
        check.tagsFrom("two moved and two posted", owing, 3, 2, 28);
    }

    private static void theLeastOfThreeLimitsHolds(Check check) {
        int[] owed = {0, 1, 16, 29, 30, 31, 32};
        int[] wanted = {MIN, -1, 0, 1, 2, 3, 4, 5, 16, MAX};
        for (int live : owed) {
            for (int pending = 0; pending <= 4; pending++) {
                for (int n : wanted) {
                    AsyncRings rings = new AsyncRings(4, 4, 0);
                    timers(rings, 100, live);
                    for (int i = 0; i < pending; i++) {
                        rings.prep(NOP, 0, 0, 1 + i);
                    }
                    int due = Math.max(0, Math.min(n, Math.min(pending, 32 - live)));
                    String what = "enter(" + n + ") with " + pending + " entries and " + live + " live";
                    check.same(what, rings.enter(n), due);
                    check.same(what + ": sqPending()", rings.sqPending(), pending - due);
                    check.tagsFrom(what, rings, 1, due, 0);
                }
            }
        }
    }

    private static void theOldestEntryIsTaken(Check check) {
        for (int s = 2; s <= 16; s++) {
            AsyncRings rings = new AsyncRings(s, 2, 1);
            int tag = 1;
            for (int round = 0; round < 40; round++) {
                for (int free = s - rings.sqPending(); free > 0; free--) {
                    rings.prep(TIMEOUT + LINK, 16, 0, tag);
                    tag++;
                }
                rings.enter(2);
                // The second one is WAITING behind the first, which has the smaller sequence number.
                check.live("round " + round + " of " + s, rings, 2 * round + 1, 33, 2 * round + 2, 0);
                ticks(rings, 16);
                check.live("round " + round + " of " + s + ", the first is done", rings, 2 * round + 2, 32);
                ticks(rings, 16);
                pops(rings, 2);
            }
        }
    }

    private static void theHeadGrowsByOneForEach(Check check) {
        AsyncRings rings = new AsyncRings(16, 16, 0);
        for (int n = 1; n <= 16; n++) {
            for (int free = 16 - rings.sqPending(); free > 0; free--) {
                rings.prep(NOP, 0, 0, 1);
            }
            check.same("enter(" + n + ")", rings.enter(n), n);
            check.same("sqPending() after enter(" + n + ")", rings.sqPending(), 16 - n);
            pops(rings, n);
        }
    }

    private static void nothingIsConsumedForNoneOrLess(Check check) {
        int[] none = {0, -1, -2, -16, MIN, MIN + 1};
        for (int n : none) {
            AsyncRings rings = new AsyncRings(4, 4, 0);
            rings.prep(NOP, 0, 0, 1);
            rings.prep(TIMEOUT, 5, 0, 2);
            String before = Snapshot.of(rings);
            check.same("enter(" + n + ")", rings.enter(n), 0);
            check.shows("after enter(" + n + ")", rings, before);
            check.same("enter(2) after enter(" + n + ")", rings.enter(2), 2);
            check.completions("after enter(2)", rings, 0, 1, OK);
        }
    }

    private static void aLinkReachesTheNextOne(Check check) {
        AsyncRings rings = new AsyncRings(8, 8, 2);
        rings.prep(READ + LINK, 0, 0, 1);
        rings.prep(NOP + LINK, 0, 0, 2);
        rings.prep(NOP, 0, 0, 3);
        rings.prep(READ, 0, 0, 4);
        rings.prep(READ + LINK, 0, 0, 5);
        rings.prep(NOP, 0, 0, 6);
        rings.enter(6);
        check.live("two chains and a single one", rings, 1, 5, 2, 1, 3, 0, 4, 4, 5, 5, 6, 0);
        // The longest chain there can be: the whole of the largest SQ.
        AsyncRings longest = new AsyncRings(16, 16, 2);
        for (int i = 1; i <= 16; i++) {
            longest.prep(TIMEOUT + LINK, 9, 0, i);
        }
        longest.enter(16);
        for (int k = 0; k < 16; k++) {
            check.same("liveState(" + k + ")", longest.liveState(k), k == 0 ? 19 : k < 15 ? 1 : 0);
        }
    }

    private static void theLastLinkIsIgnored(Check check) {
        AsyncRings byNumber = new AsyncRings(4, 4, 2);
        byNumber.prep(READ + LINK, 0, 0, 1);
        byNumber.prep(READ + LINK, 0, 0, 2);
        byNumber.prep(READ, 0, 0, 3);
        byNumber.enter(2);
        check.live("the last because of n", byNumber, 1, 5, 2, 0);
        AsyncRings byEmptyRing = new AsyncRings(4, 4, 2);
        byEmptyRing.prep(READ + LINK, 0, 0, 1);
        byEmptyRing.prep(READ + LINK, 0, 0, 2);
        byEmptyRing.enter(9);
        check.live("the last because the SQ is empty", byEmptyRing, 1, 5, 2, 0);
        AsyncRings single = new AsyncRings(4, 4, 2);
        single.prep(READ + LINK, 0, 0, 1);
        single.enter(1);
        check.live("the first and the last", single, 1, 4);
        AsyncRings byLimit = owing(30, 0);
        for (int i = 1; i <= 3; i++) {
            byLimit.prep(TIMEOUT + LINK, 5, 0, i);
        }
        check.same("enter(3) with 30 live", byLimit.enter(3), 2);
        check.same("liveState(30)", byLimit.liveState(30), 11);
        check.same("the last because of MAX_OWED: liveState(31)", byLimit.liveState(31), 0);
    }

    private static void headsAreTheFirstAndThoseAfterAnEnd(Check check) {
        AsyncRings rings = new AsyncRings(16, 16, 3);
        rings.prep(READ + LINK, 0, 0, 1);
        rings.enter(1);
        // The first one of a call is a head though the one before it had a link.
        rings.prep(READ, 0, 0, 2);
        rings.prep(READ, 0, 0, 3);
        rings.prep(READ + LINK, 0, 0, 4);
        rings.prep(READ + LINK, 0, 0, 5);
        rings.prep(READ, 0, 0, 6);
        rings.prep(READ + LINK, 0, 0, 7);
        rings.enter(6);
        check.live("heads are started", rings, 1, 6, 2, 6, 3, 6, 4, 7, 5, 1, 6, 0, 7, 6);
    }

    private static void headsStartInConsumptionOrder(Check check) {
        AsyncRings rings = new AsyncRings(8, 8, 0);
        fillBuffers(rings, 10);
        rings.prep(WRITE, 0, 1, 1);
        rings.prep(WRITE, 0, 2, 2);
        rings.prep(READ, 0, 3, 3);
        rings.prep(WRITE, 0, 4, 4);
        rings.enter(4);
        check.tagsFrom("in order", rings, 1, 4, 0);
        check.same("getBuffer(3)", rings.getBuffer(3), 12);
        check.same("getBlock(0)", rings.getBlock(0), 14);
        // A cancel reaches the head before it, which is PENDING by then, and not the one behind it.
        AsyncRings other = new AsyncRings(8, 8, 0);
        other.prep(TIMEOUT, 5, 0, 1);
        other.prep(CANCEL, 1, 0, 2);
        other.prep(TIMEOUT, 5, 0, 1);
        other.enter(3);
        check.completions("cancel between two", other, 0, 1, CANCELED, 2, 1);
        check.live("cancel between two", other, 1, 10);
    }

    private static void aStartEndsBeforeTheNext(Check check) {
        AsyncRings rings = new AsyncRings(16, 16, 0);
        fillBuffers(rings, 10);
        rings.prep(WRITE + LINK, 0, 1, 1);
        rings.prep(READ + LINK, 0, 2, 2);
        rings.prep(CMP + LINK, 0, 99, 3);
        rings.prep(NOP + LINK, 0, 0, 4);
        rings.prep(NOP, 0, 0, 5);
        rings.prep(WRITE + LINK, 0, 3, 6);
        rings.prep(READ, 0, 4, 7);
        rings.enter(7);
        check.completions("chain after chain", rings, 0, 1, OK, 2, OK, 3, MISMATCH, 4, CANCELED, 5, CANCELED, 6, OK,
                7, OK);
        check.same("getBuffer(2)", rings.getBuffer(2), 11);
        check.same("getBuffer(4)", rings.getBuffer(4), 13);
    }

    private static void theAnswerIsHowManyWereConsumed(Check check) {
        AsyncRings rings = new AsyncRings(16, 2, 2);
        rings.prep(15 + LINK, 0, 0, 1);
        rings.prep(NOP, 0, 0, 2);
        rings.prep(READ + LINK, 0, 0, 3);
        rings.prep(NOP, 0, 0, 4);
        rings.prep(TIMEOUT, 9, 0, 5);
        rings.prep(CANCEL, 3, 0, 6);
        // Neither what is posted nor what stays live makes a difference: two are posted at first, then three.
        check.same("enter(5)", rings.enter(5), 5);
        check.same("liveCount()", rings.liveCount(), 3);
        check.same("enter(5) with one left", rings.enter(5), 1);
        check.same("liveCount()", rings.liveCount(), 1);
        check.same("enter(5) with none left", rings.enter(5), 0);
    }

    private static void withoutEntriesThereIsStillAFlush(Check check) {
        int[] any = {MIN, -1, 0, 1, MAX};
        for (int n : any) {
            AsyncRings empty = new AsyncRings(4, 3, 0);
            post(empty, 1, 6);
            pops(empty, 2);
            check.same("enter(" + n + ") on an empty SQ", empty.enter(n), 0);
            check.tagsFrom("flushed by enter(" + n + ")", empty, 3, 3, 1);
            if (n <= 0) {
                AsyncRings holding = busy();
                check.same("enter(" + n + ") with entries", holding.enter(n), 0);
                check.same("sqPending()", holding.sqPending(), 3);
                check.tagsFrom("flushed by enter(" + n + ") with entries", holding, 32, 3, 2);
            }
        }
        // At the limit: with the CQ full nothing can move; with room for one, one moves and one is consumed.
        AsyncRings owing = owing(0, 32);
        owing.prep(TIMEOUT, 5, 0, 50);
        owing.prep(TIMEOUT, 5, 0, 51);
        check.same("enter(2) at MAX_OWED", owing.enter(2), 0);
        check.tagsFrom("no room", owing, 1, 2, 32);
        owing.pop();
        check.same("enter(2) at MAX_OWED after a pop", owing.enter(2), 1);
        check.tagsFrom("one moved", owing, 2, 2, 31);
    }

    private static void noLinkBetweenCalls(Check check) {
        AsyncRings rings = new AsyncRings(4, 8, 0);
        rings.prep(15 + LINK, 0, 0, 1);
        rings.prep(NOP + LINK, 0, 0, 2);
        rings.prep(NOP, 0, 0, 3);
        rings.enter(1);
        rings.enter(2);
        check.completions("a failed one cancels nothing of a later call", rings, 0, 1, INVALID, 2, OK, 3, OK);
        rings.prep(TIMEOUT + LINK, 2, 0, 4);
        rings.enter(1);
        rings.enter(0);
        rings.prep(TIMEOUT + LINK, 2, 0, 5);
        rings.enter(1);
        check.live("both wait on their own", rings, 4, 4, 5, 4);
        rings.prep(CANCEL, 4, 0, 6);
        rings.enter(1);
        check.live("the cancel of one leaves the other", rings, 5, 4);
        // The limit cuts a chain in two as well.
        AsyncRings owing = owing(31, 0);
        owing.prep(TIMEOUT + LINK, 16, 0, 7);
        owing.prep(NOP, 0, 0, 8);
        check.same("enter(2) with 31 live", owing.enter(2), 1);
        ticks(owing, 16);
        check.same("overflowCount()", owing.overflowCount(), 30);
        check.same("enter(2)", owing.enter(2), 1);
        check.same("cqTag(32)", owing.cqTag(32), 8);
    }

    private static void othersStartAfterASuccessOnly(Check check) {
        AsyncRings rings = new AsyncRings(8, 8, 1);
        fillBuffers(rings, 10);
        rings.prep(READ + LINK, 0, 0, 1);
        rings.prep(WRITE + LINK, 1, 1, 2);
        rings.prep(CMP + LINK, 1, 99, 3);
        rings.prep(WRITE, 2, 2, 4);
        rings.enter(4);
        check.live("only the head is started", rings, 1, 3, 2, 1, 3, 1, 4, 0);
        rings.tick();
        check.live("then the next", rings, 2, 3, 3, 1, 4, 0);
        rings.tick();
        check.live("then the next", rings, 3, 3, 4, 0);
        rings.tick();
        check.live("never the one behind a failure", rings);
        check.same("getBlock(1)", rings.getBlock(1), 11);
        check.same("getBlock(2)", rings.getBlock(2), 0);
    }

    private static void othersAreCanceledAfterAFailure(Check check) {
        int[] failing = {15, 6, READ, CMP, TIMEOUT, CANCEL};
        for (int opcode : failing) {
            AsyncRings rings = new AsyncRings(8, 8, 0);
            rings.prep(opcode + LINK, -1, 0, 1);
            rings.prep(NOP + LINK, 0, 0, 2);
            rings.prep(opcode + LINK, -1, 0, 3);
            rings.prep(NOP, 0, 0, 4);
            rings.prep(NOP, 0, 0, 5);
            rings.enter(5);
            int result = opcode == CANCEL ? NOENT : INVALID;
            check.completions("opcode " + opcode, rings, 0, 1, result, 2, CANCELED, 3, CANCELED, 4, CANCELED, 5, OK);
        }
    }

    private static void pendingOnesStayLive(Check check) {
        AsyncRings rings = new AsyncRings(8, 2, 4);
        rings.prep(READ, 0, 0, 1);
        rings.prep(WRITE, 0, 0, 2);
        rings.prep(CMP, 0, 0, 3);
        rings.prep(TIMEOUT, 1, 0, 4);
        rings.prep(NOP, 0, 0, 5);
        rings.enter(5);
        check.live("pending", rings, 1, 8, 2, 8, 3, 8, 4, 2);
        rings.enter(5);
        check.live("after another enter", rings, 1, 8, 2, 8, 3, 8, 4, 2);
        check.completions("only what ended at once", rings, 0, 5, OK);
    }

    private static void completionsGoOnToTheList(Check check) {
        for (int c = 2; c <= 16; c++) {
            AsyncRings rings = new AsyncRings(16, c, 0);
            for (int i = 1; i <= 16; i++) {
                rings.prep(NOP, 0, 0, i);
            }
            rings.enter(16);
            check.tagsFrom("16 at once, CQ of " + c, rings, 1, c, 16 - c);
            for (int i = 17; i <= 32; i++) {
                rings.prep(15 + LINK, 0, 0, i);
            }
            rings.enter(16);
            check.tagsFrom("16 more, CQ of " + c, rings, 1, c, 32 - c);
        }
    }

    private static void theStepsComeInThisOrder(Check check) {
        // The flush comes before the entries are taken: it makes room for two of them.
        AsyncRings flushed = owing(0, 32);
        pops(flushed, 2);
        // All entries are taken before the first is started: that two NOPs would make room again comes too late.
        AsyncRings live = owing(31, 0);
        for (int i = 1; i <= 3; i++) {
            flushed.prep(TIMEOUT, 5, 0, i);
            live.prep(NOP, 0, 0, i);
        }
        check.same("enter(3) with 32 parked and room for two", flushed.enter(3), 2);
        check.live("two are taken", flushed, 1, 10, 2, 10);
        check.same("enter(3) with 31 live", live.enter(3), 1);
        check.tagsFrom("one is taken", live, 1, 1, 0);
        // The links are made before the first is started: a failure of the first finds its successor.
        AsyncRings linked = new AsyncRings(4, 4, 0);
        linked.prep(15 + LINK, 0, 0, 1);
        linked.prep(NOP, 0, 0, 2);
        linked.enter(2);
        check.completions("linked", linked, 0, 1, INVALID, 2, CANCELED);
    }

    private static void everyCallCountsFromZero(Check check) {
        for (int n = 1; n <= 4; n++) {
            AsyncRings rings = new AsyncRings(16, 16, 0);
            for (int i = 1; i <= 16; i++) {
                rings.prep(NOP, 0, 0, i);
            }
            for (int call = 1; call <= 4; call++) {
                check.same("enter(" + n + ") number " + call, rings.enter(n), n);
                check.same("sqPending()", rings.sqPending(), 16 - call * n);
                check.tagsFrom("after enter(" + n + ") number " + call, rings, 1, call * n, 0);
            }
        }
    }

    private static void everyEntryCountsAsOne(Check check) {
        // One that ends at once, one that stays, a chain, a failure with its chain, and a cancel.
        int[] opFlags = {NOP, TIMEOUT, TIMEOUT + LINK, NOP, 15 + LINK, NOP + LINK, NOP, CANCEL, -1};
        for (int n = 1; n <= opFlags.length; n++) {
            AsyncRings rings = new AsyncRings(16, 16, 0);
            for (int i = 0; i < opFlags.length; i++) {
                rings.prep(opFlags[i], 5, 0, i);
            }
            check.same("enter(" + n + ")", rings.enter(n), n);
            check.same("sqPending() after enter(" + n + ")", rings.sqPending(), opFlags.length - n);
            check.same("all that were taken", rings.liveCount() + rings.cqReady(), n);
        }
    }

    public static void main(String[] args) {
        Check check = new Check("Promise 3");
        check.sentence("enter(n) is the kernel consuming and starting entries. It does the following, in this order.",
                Promise03EnterTest::theStepsComeInThisOrder);
        check.sentence("1. FLUSH.", Promise03EnterTest::flushComesFirst);
        check.sentence("Set k = 0.", Promise03EnterTest::everyCallCountsFromZero);
        check.sentence("While k < n, sqHead != sqTail, and liveCount() + overflowCount() < MAX_OWED:",
                Promise03EnterTest::theLeastOfThreeLimitsHolds);
        check.sentence("the entry at SQ slot (sqHead mod S) becomes a new WAITING request with the next sequence"
                + " number;", Promise03EnterTest::theOldestEntryIsTaken);
        check.sentence("sqHead grows by 1;", Promise03EnterTest::theHeadGrowsByOneForEach);
        check.sentence("k grows by 1.", Promise03EnterTest::everyEntryCountsAsOne);
        check.sentence("If n <= 0, nothing is consumed.", Promise03EnterTest::nothingIsConsumedForNoneOrLess);
        check.sentence("Each request consumed in this call whose link is true gets as successor the request consumed"
                + " right after it.", Promise03EnterTest::aLinkReachesTheNextOne);
        check.sentence("This does not apply to the last request consumed in this call: its link is ignored, and it"
                + " gets no successor.", Promise03EnterTest::theLastLinkIsIgnored);
        check.sentence("The chain heads are the first request consumed in this call, plus each request whose"
                + " previously consumed request (of this call) got no successor.",
                Promise03EnterTest::headsAreTheFirstAndThoseAfterAnEnd);
        check.sentence("They are STARTed in consumption order.", Promise03EnterTest::headsStartInConsumptionOrder);
        check.sentence("Each START, with everything it sets off, ends before the next head is started.",
                Promise03EnterTest::aStartEndsBeforeTheNext);
        check.sentence("Answers k, the number of entries consumed.",
                Promise03EnterTest::theAnswerIsHowManyWereConsumed);
        check.sentence("This is 0 if nothing was consumed, and step 1 still happens in that case.",
                Promise03EnterTest::withoutEntriesThereIsStillAFlush);
        check.sentence("Links never join requests consumed in different calls.",
                Promise03EnterTest::noLinkBetweenCalls);
        check.sentence("Only chain heads are started directly. Non-head members are started only through FINISH of"
                + " their predecessor with a result >= 0.", Promise03EnterTest::othersStartAfterASuccessOnly);
        check.sentence("Otherwise they are posted with ERR_CANCELED when a predecessor fails.",
                Promise03EnterTest::othersAreCanceledAfterAFailure);
        check.sentence("Requests that become PENDING stay live.", Promise03EnterTest::pendingOnesStayLive);
        check.sentence("Completions produced here go to the CQ or the overflow list as POST describes.",
                Promise03EnterTest::completionsGoOnToTheList);
        check.end();
    }
}
