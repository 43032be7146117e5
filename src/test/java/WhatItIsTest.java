/** The sentences of "What it is". */
public final class WhatItIsTest extends Scenes {
    private static void theSubmissionRingIsBounded(Check check) {
        for (int s = 2; s <= 16; s++) {
            AsyncRings rings = new AsyncRings(s, 2, 0);
            for (int i = 1; i <= s + 20; i++) {
                check.same("prep number " + i + " of " + s, rings.prep(NOP, 0, 0, i) ? 1 : 0, i <= s ? 1 : 0);
            }
        }
    }

    private static void eachPostsOneCompletion(Check check) {
        int[] opFlags = {NOP, READ, WRITE, CMP, TIMEOUT, CANCEL, 6, 15};
        for (int opFlag : opFlags) {
            AsyncRings rings = new AsyncRings(2, 4, 2);
            rings.prep(opFlag, 1, 1, 8);
            rings.enter(1);
            ticks(rings, 2);
            check.tagsFrom("opcode " + opFlag, rings, 8, 1, 0);
            check.live("opcode " + opFlag, rings);
            ticks(rings, 20);
            check.tagsFrom("opcode " + opFlag + " much later", rings, 8, 1, 0);
        }
    }

    private static void theCompletionRingIsBounded(Check check) {
        for (int c = 2; c <= 16; c++) {
            AsyncRings rings = new AsyncRings(2, c, 0);
            for (int i = 1; i <= c + 20; i++) {
                post(rings, i, 1);
                check.same("cqReady() of " + c + " after " + i, rings.cqReady(), Math.min(c, i));
            }
        }
    }

    private static void aFullRingParks(Check check) {
        for (int c = 2; c <= 16; c++) {
            AsyncRings rings = new AsyncRings(2, c, 0);
            post(rings, 1, c);
            check.tagsFrom("CQ of " + c + " just full", rings, 1, c, 0);
            post(rings, c + 1, 1);
            check.tagsFrom("CQ of " + c + ", one too many", rings, 1, c, 1);
            post(rings, c + 2, 1);
            rings.pop();
            post(rings, c + 3, 1);
            check.tagsFrom("CQ of " + c + ", behind a parked one", rings, 2, c, 2);
        }
    }

    private static void parkedOnesMoveAsFarAsThereIsRoom(Check check) {
        AsyncRings rings = new AsyncRings(2, 3, 0);
        post(rings, 1, 8);
        check.tagsFrom("before", rings, 1, 3, 5);
        rings.enter(0);
        check.tagsFrom("enter without room", rings, 1, 3, 5);
        pops(rings, 2);
        rings.enter(0);
        check.tagsFrom("enter with room for two", rings, 3, 3, 3);
        rings.tick();
        check.tagsFrom("tick without room", rings, 3, 3, 3);
        rings.pop();
        rings.tick();
        check.tagsFrom("tick with room for one", rings, 4, 3, 2);
        pops(rings, 3);
        rings.tick();
        check.tagsFrom("tick with more room than is needed", rings, 7, 2, 0);
    }

    private static void successorsAreCanceledWithoutADeviceEffect(Check check) {
        for (int latency = 0; latency <= 4; latency++) {
            AsyncRings rings = new AsyncRings(16, 16, latency);
            fillBlocks(rings, 500);
            fillBuffers(rings, 10);
            String memory = Snapshot.memory(rings);
            rings.prep(CMP + LINK, 0, 0, 1);
            rings.prep(WRITE + LINK, 1, 1, 2);
            rings.prep(READ, 2, 2, 3);
            rings.prep(TIMEOUT + LINK, 9, 0, 4);
            rings.prep(WRITE + LINK, 3, 3, 5);
            rings.prep(READ, 4, 4, 6);
            rings.enter(6);
            ticks(rings, 8);
            check.completions("failed", rings, 0, 1, MISMATCH, 2, CANCELED, 3, CANCELED);
            rings.prep(CANCEL, 4, 0, 7);
            rings.enter(1);
            ticks(rings, 8);
            check.completions("failed and canceled", rings, 0, 1, MISMATCH, 2, CANCELED, 3, CANCELED,
                    4, CANCELED, 5, CANCELED, 6, CANCELED, 7, 1);
            check.yes("the memory is as before", memory.equals(Snapshot.memory(rings)));
        }
    }

    private static void atMaxOwedNothingIsTaken(Check check) {
        for (int live = 0; live <= 32; live++) {
            AsyncRings rings = owing(live, 32 - live);
            String what = live + " live and " + (32 - live) + " parked";
            check.same(what + ": liveCount()", rings.liveCount(), live);
            check.same(what + ": overflowCount()", rings.overflowCount(), 32 - live);
            for (int i = 0; i < 3; i++) {
                rings.prep(NOP, 0, 0, 9);
            }
            String before = Snapshot.of(rings);
            check.same(what + ": enter(1)", rings.enter(1), 0);
            check.same(what + ": enter(MAX_VALUE)", rings.enter(MAX), 0);
            check.shows(what + ": the entries stay", rings, before);
        }
    }

    private static void atMaxOwedLessOneIsTaken(Check check) {
        for (int live = 0; live <= 31; live++) {
            AsyncRings rings = owing(live, 31 - live);
            String what = live + " live and " + (31 - live) + " parked";
            for (int i = 0; i < 3; i++) {
                rings.prep(TIMEOUT, 5, 0, 7 + i);
            }
            check.same(what + ": enter(3)", rings.enter(3), 1);
            check.same(what + ": sqPending()", rings.sqPending(), 2);
            check.same(what + ": liveCount()", rings.liveCount(), live + 1);
            check.same(what + ": liveTag of the last", rings.liveTag(live), 7);
            check.same(what + ": overflowCount()", rings.overflowCount(), 31 - live);
        }
    }

    private static void noCompletionIsDropped(Check check) {
        for (int c = 2; c <= 16; c++) {
            AsyncRings rings = new AsyncRings(2, c, 0);
            post(rings, 1, c + 32);
            check.tagsFrom("CQ of " + c + ", the most there can be", rings, 1, c, 32);
            for (int tag = 1; tag <= c + 32; tag++) {
                check.same("CQ of " + c + ": the oldest", rings.cqTag(0), tag);
                check.yes("CQ of " + c + ": pop()", rings.pop());
                rings.tick();
            }
            check.tagsFrom("CQ of " + c + ", all seen", rings, 0, 0, 0);
        }
        // All that can be live is posted at once, beside a full CQ.
        AsyncRings rings = new AsyncRings(2, 2, 0);
        post(rings, 1, 2);
        timers(rings, 3, 32);
        check.same("liveCount()", rings.liveCount(), 32);
        ticks(rings, 16);
        check.tagsFrom("32 at once", rings, 1, 2, 32);
    }

    private static void zeroIsASuccess(Check check) {
        AsyncRings rings = new AsyncRings(16, 16, 0);
        rings.prep(TIMEOUT, 9, 0, 1);
        rings.prep(CANCEL + LINK, 1, 0, 2);
        rings.prep(NOP + LINK, 0, 0, 3);
        rings.prep(CANCEL + LINK, 1, 0, 4);
        rings.prep(NOP, 0, 0, 5);
        rings.prep(6 + LINK, 0, 0, 6);
        rings.prep(NOP, 0, 0, 7);
        rings.prep(CMP + LINK, 0, 1, 8);
        rings.prep(NOP, 0, 0, 9);
        rings.enter(9);
        check.completions("1 and 0 go on, -2, -22 and -74 do not", rings, 0, 1, CANCELED, 2, 1, 3, OK, 4, NOENT,
                5, CANCELED, 6, INVALID, 7, CANCELED, 8, MISMATCH, 9, CANCELED);
    }

    private static void enterConsumesLinksAndStarts(Check check) {
        AsyncRings rings = new AsyncRings(8, 8, 2);
        rings.prep(READ + LINK, 0, 0, 1);
        rings.prep(READ + LINK, 0, 1, 2);
        rings.prep(READ, 0, 2, 3);
        rings.prep(READ, 0, 3, 4);
        rings.prep(READ + LINK, 0, 4, 5);
        rings.prep(READ, 0, 5, 6);
        rings.prep(NOP, 0, 0, 7);
        check.live("written only", rings);
        check.same("enter(7)", rings.enter(7), 7);
        check.same("sqPending()", rings.sqPending(), 0);
        check.live("only the heads are started", rings, 1, 5, 2, 1, 3, 0, 4, 4, 5, 5, 6, 0);
        check.completions("the head that ends at once", rings, 0, 7, OK);
        ticks(rings, 2);
        check.live("each chain goes on by itself", rings, 2, 5, 3, 0, 6, 4);
        check.completions("the heads are done", rings, 0, 7, OK, 1, OK, 4, OK, 5, OK);
    }

    /** A request with these arguments ends with this result after so many ticks, and not before. */
    private static void ends(Check check, AsyncRings rings, int ticks, int opcode, int a, int b, int result) {
        String what = "opcode " + opcode + " with " + a + " and " + b + ", latency " + ticks;
        rings.prep(opcode, a, b, 6);
        rings.enter(1);
        for (int left = ticks; left > 0; left--) {
            check.completions(what + ", " + left + " ticks before its end", rings, 0);
            rings.tick();
        }
        check.completions(what, rings, 0, 6, result);
        rings.pop();
    }

    private static void everyBlockIsReachedAfterTheLatency(Check check) {
        for (int latency = 0; latency <= 4; latency++) {
            AsyncRings rings = new AsyncRings(4, 4, latency);
            for (int a = 0; a < 16; a++) {
                int value = a % 2 == 0 ? MIN + a : MAX - a;
                int from = a % 8;
                int into = 7 - from;
                rings.setBuffer(from, value);
                ends(check, rings, latency, WRITE, a, from, OK);
                check.same("getBlock(" + a + ")", rings.getBlock(a), value);
                ends(check, rings, latency, CMP, a, value, OK);
                ends(check, rings, latency, CMP, a, value ^ 1, MISMATCH);
                ends(check, rings, latency, CMP, a, value ^ MIN, MISMATCH);
                rings.setBuffer(from, 0);
                ends(check, rings, latency, READ, a, into, OK);
                check.same("getBuffer(" + into + ")", rings.getBuffer(into), value);
            }
        }
    }

    private static void timersExpireAfterTheirTicks(Check check) {
        AsyncRings rings = new AsyncRings(16, 16, 3);
        for (int i = 0; i < 16; i++) {
            // 7 goes round all lengths from 1 to 16, in an order that is neither rising nor falling.
            int length = 1 + 7 * i % 16;
            rings.prep(TIMEOUT, length, 0, 100 + length);
        }
        rings.enter(16);
        for (int passed = 1; passed <= 16; passed++) {
            check.same("tick() number " + passed, rings.tick(), 1);
            check.tagsFrom("after tick number " + passed, rings, 101, passed, 0);
        }
        check.live("after the last", rings);
    }

    private static void workInFlightIsCanceledByItsTag(Check check) {
        for (int tag = 1; tag <= 4; tag++) {
            AsyncRings rings = new AsyncRings(8, 8, 2);
            fillBuffers(rings, 10);
            rings.prep(WRITE, 3, 1, 1);
            rings.prep(READ, 4, 2, 2);
            rings.prep(CMP, 5, 0, 3);
            rings.prep(TIMEOUT, 2, 0, 4);
            rings.prep(CANCEL, tag, 0, 9);
            rings.enter(5);
            String what = "cancel of " + tag;
            check.completions(what, rings, 0, tag, CANCELED, 9, 1);
            check.same(what + ": liveCount()", rings.liveCount(), 3);
            pops(rings, 2);
            ticks(rings, 2);
            int due = 0;
            for (int other = 1; other <= 4; other++) {
                if (other != tag) {
                    check.same(what + ": cqTag(" + due + ")", rings.cqTag(due), other);
                    check.same(what + ": cqResult(" + due + ")", rings.cqResult(due), OK);
                    due++;
                }
            }
            check.same(what + ": getBlock(3)", rings.getBlock(3), tag == 1 ? 0 : 11);
            check.same(what + ": getBuffer(2)", rings.getBuffer(2), tag == 2 ? 12 : 0);
        }
    }

    public static void main(String[] args) {
        Check check = new Check("What it is");
        check.sentence("The process writes request entries into a bounded submission ring (SQ).",
                WhatItIsTest::theSubmissionRingIsBounded);
        check.sentence("On enter, the kernel consumes them, links consecutive flagged entries into chains, and starts"
                + " each chain head.", WhatItIsTest::enterConsumesLinksAndStarts);
        check.sentence("read or write blocks of a small simulated device of BLOCKS int blocks through BUFFERS"
                + " registered int buffers, or compare a block with a given value, after a fixed latency;",
                WhatItIsTest::everyBlockIsReachedAfterTheLatency);
        check.sentence("act as timers that expire after a given number of ticks;",
                WhatItIsTest::timersExpireAfterTheirTicks);
        check.sentence("cancel in-flight work by tag.", WhatItIsTest::workInFlightIsCanceledByItsTag);
        check.sentence("Each finished request posts one completion (tag, result).",
                WhatItIsTest::eachPostsOneCompletion);
        check.sentence("The completion goes into a bounded completion ring (CQ).",
                WhatItIsTest::theCompletionRingIsBounded);
        check.sentence("If that ring is full, or earlier completions are still parked, it goes instead onto a"
                + " kernel-side overflow list.", WhatItIsTest::aFullRingParks);
        check.sentence("At the start of each enter or tick, the oldest completions of that list are moved into the CQ,"
                + " in order, only as far as the CQ has room.", WhatItIsTest::parkedOnesMoveAsFarAsThereIsRoom);
        check.sentence("A failed or canceled request posts its chain successors as canceled, without touching the"
                + " device.", WhatItIsTest::successorsAreCanceledWithoutADeviceEffect);
        check.sentence("The kernel takes no new entry while the live requests plus the parked completions have already"
                + " reached MAX_OWED (sum >= MAX_OWED)", WhatItIsTest::atMaxOwedNothingIsTaken);
        check.sentence("at MAX_OWED - 1 one more entry is still taken.", WhatItIsTest::atMaxOwedLessOneIsTaken);
        check.sentence("No completion is ever dropped: POST always writes it into the CQ or appends it to the overflow"
                + " list.", WhatItIsTest::noCompletionIsDropped);
        check.sentence("A result >= 0 counts as success; a result < 0 counts as failure.",
                WhatItIsTest::zeroIsASuccess);
        check.end();
    }
}
