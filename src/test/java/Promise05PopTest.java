/** Promise 5: pop takes the oldest completion out of the CQ and does nothing else. */
public final class Promise05PopTest extends Scenes {
    /** An object whose CQ has come to be empty after so many completions, with live requests and entries. */
    private static AsyncRings emptyAfter(int completions) {
        AsyncRings rings = new AsyncRings(4, 3, 2);
        rings.prep(TIMEOUT + LINK, 7, 0, 90);
        rings.prep(NOP, 0, 0, 91);
        rings.enter(2);
        for (int i = 0; i < completions; i++) {
            post(rings, 1 + i, 1);
            rings.pop();
        }
        rings.prep(WRITE, 1, 1, 92);
        return rings;
    }

    private static void anEmptyRingRefuses(Check check) {
        AsyncRings fresh = new AsyncRings(2, 2, 0);
        check.no("pop() on a new object", fresh.pop());
        check.alike("a new object after a refused pop()", fresh, new AsyncRings(2, 2, 0));
        for (int completions = 0; completions <= 7; completions++) {
            AsyncRings rings = emptyAfter(completions);
            check.no("pop() after " + completions, rings.pop());
            check.no("pop() again", rings.pop());
            check.same("cqReady()", rings.cqReady(), 0);
            check.alike("after " + completions + " and two refused calls", rings, emptyAfter(completions));
        }
    }

    private static AsyncRings parkedAlone(int parked) {
        AsyncRings rings = new AsyncRings(2, 3, 0);
        post(rings, 1, 3 + parked);
        pops(rings, 3);
        return rings;
    }

    private static void parkedOnesAreNotReached(Check check) {
        for (int parked = 1; parked <= 32; parked++) {
            AsyncRings rings = parkedAlone(parked);
            check.tagsFrom("parked alone", rings, 4, 0, parked);
            check.no("pop() with " + parked + " parked", rings.pop());
            check.no("pop() again", rings.pop());
            check.tagsFrom("still parked", rings, 4, 0, parked);
            check.alike(parked + " parked and two refused calls", rings, parkedAlone(parked));
        }
    }

    private static void theOldestGoes(Check check) {
        for (int c = 2; c <= 16; c++) {
            AsyncRings rings = new AsyncRings(2, c, 0);
            for (int round = 0; round < 5; round++) {
                // From one completion to a full ring, at every slot.
                for (int count = 1; count <= c; count++) {
                    post(rings, 1, count);
                    for (int left = count - 1; left >= 0; left--) {
                        check.yes("pop() with " + (left + 1) + " of " + c, rings.pop());
                        check.tagsFrom("after pop()", rings, count - left + 1, left, 0);
                    }
                    check.no("pop() when empty", rings.pop());
                }
            }
        }
    }

    private static void noFlushHappens(Check check) {
        AsyncRings rings = new AsyncRings(4, 3, 0);
        post(rings, 1, 8);
        for (int popped = 1; popped <= 3; popped++) {
            check.yes("pop()", rings.pop());
            check.tagsFrom("after pop " + popped, rings, 1 + popped, 3 - popped, 5);
        }
        // Nor does any call but enter and tick move them.
        rings.prep(NOP, 0, 0, 9);
        rings.setBuffer(0, 1);
        check.tagsFrom("after prep and setBuffer", rings, 4, 0, 5);
        rings.tick();
        check.tagsFrom("after tick", rings, 4, 3, 2);
        pops(rings, 3);
        check.tagsFrom("after three more", rings, 7, 0, 2);
        rings.enter(0);
        check.tagsFrom("after enter", rings, 7, 2, 0);
    }

    private static void nothingElseChanges(Check check) {
        AsyncRings rings = busy();
        stillBusy(check, "after the calls of pop that went before", rings);
        String memory = Snapshot.memory(rings);
        for (int popped = 1; popped <= 3; popped++) {
            // The third one is refused.
            rings.pop();
            check.tagsFrom("after pop " + popped, rings, 32 + Math.min(2, popped), Math.max(0, 2 - popped), 3);
            check.live("after pop " + popped, rings, 41, 19, 42, 1, 43, 0, 44, 4);
            check.same("sqPending()", rings.sqPending(), 3);
            check.yes("the memory is as before", memory.equals(Snapshot.memory(rings)));
        }
        // The entries themselves are as they were.
        rings.enter(3);
        check.same("cqTag of the third entry", rings.cqTag(3), 53);
        check.same("liveTag of the first entry", rings.liveTag(4), 51);
        check.same("liveTag of the second entry", rings.liveTag(5), 52);
    }

    private static void everyCompletionIsTakenOnce(Check check) {
        for (int c = 2; c <= 16; c++) {
            for (int count = 0; count <= c; count++) {
                AsyncRings rings = new AsyncRings(2, c, 0);
                post(rings, 1, count);
                int taken = 0;
                while (taken < 100 && rings.cqReady() > 0) {
                    check.same("cqTag(0) of " + count, rings.cqTag(0), taken + 1);
                    rings.pop();
                    taken++;
                }
                check.same("calls of pop for " + count + " in a CQ of " + c, taken, count);
            }
        }
    }

    public static void main(String[] args) {
        Check check = new Check("Promise 5");
        check.sentence("pop() is the process consuming one completion from the CQ.",
                Promise05PopTest::everyCompletionIsTakenOnce);
        check.sentence("CQ empty (cqTail == cqHead): answers false and nothing changes.",
                Promise05PopTest::anEmptyRingRefuses);
        check.sentence("This holds even if the overflow list is not empty.",
                Promise05PopTest::parkedOnesAreNotReached);
        check.sentence("Otherwise: cqHead grows by 1 and it answers true.", Promise05PopTest::theOldestGoes);
        check.sentence("No FLUSH happens here. Overflow completions move into the CQ only at the next enter or tick.",
                Promise05PopTest::noFlushHappens);
        check.sentence("pop does not change live requests, the SQ, blocks or buffers.",
                Promise05PopTest::nothingElseChanges);
        check.end();
    }
}
