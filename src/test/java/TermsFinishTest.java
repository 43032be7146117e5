/** The sentences of "Terms used below" about EXECUTE, FINISH and CANCEL. */
public final class TermsFinishTest extends Scenes {
    private static AsyncRings filled(int latency) {
        AsyncRings rings = new AsyncRings(16, 16, latency);
        fillBlocks(rings, 500);
        fillBuffers(rings, 10);
        return rings;
    }

    private static void effectComesAtThatMoment(Check check) {
        for (int latency = 1; latency <= 4; latency++) {
            AsyncRings rings = filled(latency);
            rings.prep(WRITE, 3, 1, 1);
            rings.prep(READ, 4, 2, 2);
            rings.enter(2);
            for (int t = 1; t < latency; t++) {
                rings.tick();
                rings.setBuffer(1, 60 + t);
                check.same("getBlock(3) after tick " + t, rings.getBlock(3), 503);
                check.same("getBuffer(2) after tick " + t, rings.getBuffer(2), 12);
                check.completions("after tick " + t, rings, 0);
            }
            rings.setBuffer(1, 99);
            rings.tick();
            check.same("getBlock(3) at its time", rings.getBlock(3), 99);
            check.same("getBuffer(2) at its time", rings.getBuffer(2), 504);
            check.completions("at its time", rings, 0, 1, OK, 2, OK);
        }
    }

    private static void readSetsOneBuffer(Check check) {
        for (int a = 0; a < 16; a++) {
            for (int b = 0; b < 8; b++) {
                AsyncRings rings = filled(1);
                rings.prep(READ, a, b, 1);
                rings.enter(1);
                rings.tick();
                check.completions("read", rings, 0, 1, OK);
                AsyncRings due = filled(1);
                due.setBuffer(b, 500 + a);
                check.yes("read " + a + " into " + b, Snapshot.memory(rings).equals(Snapshot.memory(due)));
            }
        }
    }

    private static void writeSetsOneBlock(Check check) {
        for (int a = 0; a < 16; a++) {
            for (int b = 0; b < 8; b++) {
                AsyncRings rings = filled(1);
                rings.prep(WRITE, a, b, 1);
                rings.enter(1);
                rings.tick();
                check.completions("write", rings, 0, 1, OK);
                for (int i = 0; i < 16; i++) {
                    String what = "write " + a + " from " + b + ": getBlock(" + i + ")";
                    check.same(what, rings.getBlock(i), i == a ? 10 + b : 500 + i);
                }
                for (int i = 0; i < 8; i++) {
                    check.same("write " + a + " from " + b + ": getBuffer(" + i + ")", rings.getBuffer(i), 10 + i);
                }
            }
        }
    }

    private static void compareChangesNothing(Check check) {
        AsyncRings rings = filled(0);
        String memory = Snapshot.memory(rings);
        for (int a = 0; a < 16; a++) {
            rings.prep(CMP, a, 500 + a, 1);
            rings.prep(CMP, a, 499 + a, 2);
            rings.prep(CMP, a, 501 + a, 3);
            rings.enter(3);
            check.completions("compare of block " + a, rings, 0, 1, OK, 2, MISMATCH, 3, MISMATCH);
            pops(rings, 3);
        }
        check.yes("compare changes nothing", memory.equals(Snapshot.memory(rings)));
    }

    private static void timerEndsWell(Check check) {
        AsyncRings rings = filled(0);
        String memory = Snapshot.memory(rings);
        for (int a = 1; a <= 16; a++) {
            rings.prep(TIMEOUT, a, 1, a);
            rings.enter(1);
            ticks(rings, a);
            check.completions("timer of " + a, rings, 0, a, OK);
            rings.pop();
        }
        check.yes("a timer changes nothing", memory.equals(Snapshot.memory(rings)));
    }

    private static void itsOwnPostComesFirst(Check check) {
        AsyncRings rings = filled(0);
        rings.prep(NOP + LINK, 0, 0, 1);
        rings.prep(CMP + LINK, 0, 0, 2);
        rings.prep(NOP, 0, 0, 3);
        rings.enter(3);
        check.completions("a chain", rings, 0, 1, OK, 2, MISMATCH, 3, CANCELED);
        // A cancel that is started by the end of a timer finds the timer posted already.
        rings.prep(TIMEOUT + LINK, 1, 0, 4);
        rings.prep(CANCEL, 4, 0, 5);
        rings.enter(2);
        rings.tick();
        check.completions("a timer and its cancel", rings, 0, 1, OK, 2, MISMATCH, 3, CANCELED, 4, OK, 5, NOENT);
        // Without a successor nothing follows.
        rings.prep(15, 0, 0, 6);
        rings.prep(TIMEOUT, 9, 0, 7);
        rings.enter(2);
        check.same("cqTag(5)", rings.cqTag(5), 6);
        check.live("the next one is no successor", rings, 7, 18);
    }

    private static void successGoesOnAlongTheChain(Check check) {
        for (int length = 2; length <= 16; length++) {
            AsyncRings rings = new AsyncRings(16, 16, 0);
            for (int i = 1; i <= length; i++) {
                rings.prep(NOP + LINK, 0, 0, i);
            }
            rings.enter(length);
            check.tagsFrom("chain of " + length, rings, 1, length, 0);
            check.same("last result of " + length, rings.cqResult(length - 1), OK);
        }
        // Results of 0, 1 and 2 all go on; a successor that has to wait waits its own time from then on.
        AsyncRings rings = new AsyncRings(16, 16, 2);
        timers(rings, 7, 1);
        timers(rings, 8, 1);
        timers(rings, 8, 1);
        rings.prep(NOP + LINK, 0, 0, 1);
        rings.prep(CANCEL + LINK, 7, 0, 2);
        rings.prep(CANCEL + LINK, 8, 0, 3);
        rings.prep(READ + LINK, 0, 0, 4);
        rings.prep(TIMEOUT, 3, 0, 5);
        rings.enter(5);
        check.completions("as far as the read", rings, 0, 1, OK, 7, CANCELED, 2, 1, 8, CANCELED, 8, CANCELED, 3, 2);
        check.live("as far as the read", rings, 4, 5, 5, 0);
        ticks(rings, 2);
        check.live("as far as the timer", rings, 5, 6);
    }

    private static void failureCancelsTheRest(Check check) {
        for (int length = 2; length <= 16; length++) {
            for (int failing = 1; failing <= length; failing++) {
                AsyncRings rings = new AsyncRings(16, 4, 0);
                for (int i = 1; i <= length; i++) {
                    rings.prep((i == failing ? 15 : NOP) + LINK, 0, 0, i);
                }
                rings.enter(length);
                String what = "chain of " + length + " failing at " + failing;
                check.tagsFrom(what, rings, 1, Math.min(4, length), Math.max(0, length - 4));
                for (int i = 1; i <= length; i++) {
                    int due = i < failing ? OK : i == failing ? INVALID : CANCELED;
                    check.same(what + ": cqResult(" + (i - 1) + ")", rings.cqResult(i - 1), due);
                }
                check.live(what, rings);
            }
        }
    }

    private static void noneOfTheRestIsStarted(Check check) {
        AsyncRings rings = filled(0);
        timers(rings, 9, 1);
        String memory = Snapshot.memory(rings);
        rings.prep(15 + LINK, 0, 0, 1);
        rings.prep(WRITE + LINK, 0, 1, 2);
        rings.prep(READ + LINK, 0, 1, 3);
        rings.prep(TIMEOUT + LINK, 5, 0, 4);
        rings.prep(CANCEL + LINK, 9, 0, 5);
        rings.prep(15, 0, 0, 6);
        rings.enter(6);
        check.completions("after a failure", rings, 0, 1, INVALID, 2, CANCELED, 3, CANCELED, 4, CANCELED, 5, CANCELED,
                6, CANCELED);
        check.live("the cancel did not reach its target", rings, 9, 32);
        check.yes("nothing is touched", memory.equals(Snapshot.memory(rings)));
    }

    /** A cancel that a tick sets off, so many timers standing before and behind it, one of them with its tag. */
    private static void oneTargetAt(Check check, int before, int behind, int place) {
        AsyncRings rings = new AsyncRings(16, 16, 0);
        for (int i = 0; i <= before + behind; i++) {
            if (i == before) {
                rings.prep(TIMEOUT + LINK, 1, 0, 1);
                rings.prep(CANCEL, 5, 0, 2);
                rings.enter(2);
            }
            if (i < before + behind) {
                timers(rings, i == place ? 5 : 6, 1);
            }
        }
        rings.tick();
        String what = before + " before, " + behind + " behind, the target at " + place;
        check.completions(what, rings, 0, 1, OK, 5, CANCELED, 2, 1);
        check.same(what + ": liveCount()", rings.liveCount(), before + behind - 1);
        for (int k = 0; k < before + behind - 1; k++) {
            check.same(what + ": liveTag(" + k + ")", rings.liveTag(k), 6);
        }
    }

    private static void targetsArePendingOnesWithTheTag(Check check) {
        for (int before = 0; before <= 30; before += 5) {
            for (int place = 0; place < 30; place++) {
                oneTargetAt(check, before, 30 - before, place);
            }
        }
        int[] tags = {MIN, -1, 0, 5, MAX};
        for (int tag : tags) {
            AsyncRings rings = new AsyncRings(16, 16, 2);
            // Each target has a successor of its own, by which the order of the targets can be seen.
            rings.prep(TIMEOUT + LINK, 9, 0, tag);
            rings.prep(NOP, 0, 0, 101);
            rings.prep(READ, 0, 0, tag ^ 1);
            rings.prep(WRITE + LINK, 0, 0, tag);
            rings.prep(NOP, 0, 0, 102);
            rings.prep(CMP, 0, 0, tag ^ MIN);
            rings.enter(6);
            post(rings, tag, 1);
            rings.prep(READ + LINK, 0, 0, tag);
            rings.prep(NOP, 0, 0, 103);
            rings.enter(2);
            rings.prep(CANCEL, tag, 0, 77);
            // This one comes after the cancel, so it is not there yet when the targets are taken.
            rings.prep(READ, 0, 0, tag);
            rings.enter(2);
            check.completions("cancel of " + tag, rings, 0, tag, OK, tag, CANCELED, 101, CANCELED, tag, CANCELED,
                    102, CANCELED, tag, CANCELED, 103, CANCELED, 77, 3);
            check.live("cancel of " + tag, rings, tag ^ 1, 4, tag ^ MIN, 4, tag, 4);
        }
    }

    private static void waitingOnesAreNoTargets(Check check) {
        AsyncRings rings = new AsyncRings(16, 16, 2);
        rings.prep(TIMEOUT + LINK, 9, 0, 1);
        rings.prep(READ + LINK, 0, 0, 5);
        rings.prep(READ, 0, 0, 5);
        rings.prep(CANCEL, 5, 0, 6);
        // The cancel itself, and what stands behind it, is WAITING too.
        rings.prep(CANCEL + LINK, 7, 0, 7);
        rings.prep(READ, 0, 0, 7);
        rings.prep(READ, 0, 0, 5);
        rings.enter(7);
        check.completions("no target", rings, 0, 6, NOENT, 7, NOENT, 7, CANCELED);
        check.live("all are left", rings, 1, 19, 5, 1, 5, 0, 5, 4);
    }

    private static void eachTargetIsPostedWithItsChain(Check check) {
        AsyncRings rings = new AsyncRings(16, 16, 2);
        rings.prep(READ + LINK, 0, 0, 5);
        rings.prep(NOP + LINK, 0, 0, 20);
        rings.prep(READ, 0, 0, 5);
        rings.prep(READ + LINK, 0, 0, 6);
        rings.prep(NOP, 0, 0, 21);
        rings.prep(READ + LINK, 0, 0, 5);
        rings.prep(NOP, 0, 0, 22);
        rings.enter(7);
        rings.prep(CANCEL, 5, 0, 7);
        rings.enter(1);
        // The third one with the tag 5 waits behind the first: it goes with its chain and is not counted.
        check.completions("chain by chain", rings, 0, 5, CANCELED, 20, CANCELED, 5, CANCELED, 5, CANCELED,
                22, CANCELED, 7, 2);
        check.live("the other chain is left", rings, 6, 5, 21, 0);
    }

    private static void theNumberOfTargetsIsTheResult(Check check) {
        for (int targets = 0; targets <= 31; targets++) {
            AsyncRings rings = new AsyncRings(16, 16, 0);
            for (int i = 0; i < targets; i++) {
                timers(rings, 5, 1);
            }
            rings.prep(CANCEL + LINK, 5, 0, 6);
            rings.prep(NOP, 0, 0, 7);
            int taken = targets == 31 ? 1 : 2;
            check.same("enter(2) with " + targets + " live", rings.enter(2), taken);
            check.same("cqTag of the cancel", rings.cqTag(targets), 6);
            check.same("cqResult of the cancel", rings.cqResult(targets), targets == 0 ? NOENT : targets);
            if (taken == 2) {
                check.same("cqTag of its successor", rings.cqTag(targets + 1), 7);
                check.same("cqResult of its successor", rings.cqResult(targets + 1), targets == 0 ? CANCELED : OK);
            }
            check.live("none is left", rings);
        }
    }

    private static void itsArgumentIsWhatCounts(Check check) {
        int[] any = {MIN, -1, 0, 7, 8, MAX};
        for (int b : any) {
            AsyncRings rings = filled(1);
            String memory = Snapshot.memory(rings);
            rings.prep(TIMEOUT, 9, 0, 3);
            rings.prep(TIMEOUT, 9, 0, 4);
            rings.prep(TIMEOUT, 9, 0, b);
            rings.enter(3);
            rings.prep(NOP, 0, 0, 3);
            rings.prep(CANCEL, 3, b, 4);
            // Neither its own tag nor its b chooses a target, and an entry that is only written is none.
            rings.prep(TIMEOUT, 9, 0, 3);
            rings.enter(2);
            check.completions("cancel of 3 with b " + b, rings, 0, 3, OK, 3, CANCELED, 4, 1);
            check.live("cancel of 3 with b " + b, rings, 4, 18, b, 18);
            check.same("sqPending()", rings.sqPending(), 1);
            check.yes("the memory is as before", memory.equals(Snapshot.memory(rings)));
        }
    }

    public static void main(String[] args) {
        Check check = new Check("Terms, EXECUTE");
        check.sentence("EXECUTE(r) does the device effect at this moment, then FINISH(r, res):",
                TermsFinishTest::effectComesAtThatMoment);
        check.sentence("OP_READ: buffer[b] = block[a]; res = RES_OK.", TermsFinishTest::readSetsOneBuffer);
        check.sentence("OP_WRITE: block[a] = buffer[b]; res = RES_OK.", TermsFinishTest::writeSetsOneBlock);
        check.sentence("OP_CMP: res = RES_OK if block[a] == b, else ERR_MISMATCH. Nothing changes.",
                TermsFinishTest::compareChangesNothing);
        check.sentence("OP_TIMEOUT: res = RES_OK.", TermsFinishTest::timerEndsWell);

        check.part("Terms, FINISH");
        check.sentence("First POST(r, res). Then, if r has a successor s:", TermsFinishTest::itsOwnPostComesFirst);
        check.sentence("when res >= 0, START(s). This may continue along the chain.",
                TermsFinishTest::successGoesOnAlongTheChain);
        check.sentence("when res < 0, s and every later member of the chain are POSTed with ERR_CANCELED, in chain"
                + " order.", TermsFinishTest::failureCancelsTheRest);
        check.sentence("None of them is started, and none touches buffers or blocks.",
                TermsFinishTest::noneOfTheRestIsStarted);

        check.part("Terms, CANCEL");
        check.sentence("This is what executing a cancel request c with argument a does.",
                TermsFinishTest::itsArgumentIsWhatCounts);
        check.sentence("The targets are the live PENDING requests whose tag == a, taken at this moment, in ascending"
                + " sequence number.", TermsFinishTest::targetsArePendingOnesWithTheTag);
        check.sentence("WAITING requests are never targets.", TermsFinishTest::waitingOnesAreNoTargets);
        check.sentence("For each target t in that order: FINISH(t, ERR_CANCELED). So t is posted canceled, and then"
                + " its chain.", TermsFinishTest::eachTargetIsPostedWithItsChain);
        check.sentence("Then FINISH(c, number of targets), or FINISH(c, ERR_NOENT) if there were no targets.",
                TermsFinishTest::theNumberOfTargetsIsTheResult);
        check.end();
    }
}
