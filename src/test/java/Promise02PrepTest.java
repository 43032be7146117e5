/** Promise 2: prep writes one entry as given, or answers false when the ring is full. */
public final class Promise02PrepTest extends Scenes {
    private static final int[] ANY = {MIN, MIN + 1, -32, -17, -1, 0, 1, 6, 15, 16, 31, 32, 47, MAX - 1, MAX};

    /** A full SQ of s whose first entry stands in slot first. */
    private static AsyncRings full(int s, int first) {
        AsyncRings rings = new AsyncRings(s, 3, 1);
        for (int i = 0; i < first; i++) {
            rings.prep(NOP, 0, 0, 1);
            rings.enter(1);
            rings.pop();
        }
        for (int i = 1; i <= s; i++) {
            rings.prep(CMP, i % 16, i, 100 + i);
        }
        return rings;
    }

    private static void aFullRingRefuses(Check check) {
        for (int s = 2; s <= 16; s++) {
            for (int first = 0; first <= 17; first++) {
                AsyncRings rings = full(s, first);
                check.same("sqPending() of " + s, rings.sqPending(), s);
                check.no("prep on a full ring of " + s, rings.prep(NOP, 5, 6, 999));
                check.no("prep on it again", rings.prep(TIMEOUT + LINK, 1, 2, 998));
                check.alike("a full ring of " + s + " after two refused calls", rings, full(s, first));
            }
        }
    }

    private static void entriesGoRoundAsGiven(Check check) {
        for (int s = 2; s <= 16; s++) {
            AsyncRings rings = new AsyncRings(s, 16, 0);
            int written = 0;
            for (int seen = 0; seen < 40; seen++) {
                for (int free = s - rings.sqPending(); free > 0; free--) {
                    int opFlags = written % 3 == 0 ? TIMEOUT : 0xFFFFFFE0 | CMP;
                    rings.prep(opFlags, 1 + written % 15, written % 3 == 1 ? 0 : written, 100 + written);
                    written++;
                }
                rings.enter(1);
                if (seen % 3 == 0) {
                    check.live("timer number " + seen + " of " + s, rings, 100 + seen, 2 * (1 + seen % 15));
                    ticks(rings, 15);
                } else {
                    int due = seen % 3 == 1 ? OK : MISMATCH;
                    check.completions("compare number " + seen + " of " + s, rings, 0, 100 + seen, due);
                }
                rings.pop();
            }
        }
    }

    private static void theTailGrowsByOne(Check check) {
        for (int s = 2; s <= 16; s++) {
            AsyncRings rings = new AsyncRings(s, 4, 0);
            for (int i = 1; i <= s; i++) {
                rings.prep(NOP, 0, 0, i);
                check.same("sqPending() of " + s + " after prep " + i, rings.sqPending(), i);
            }
        }
    }

    private static void theLastFreePlaceIsTaken(Check check) {
        for (int s = 2; s <= 16; s++) {
            AsyncRings rings = new AsyncRings(s, 4, 0);
            for (int i = 1; i <= s; i++) {
                check.yes("prep number " + i + " of " + s, rings.prep(NOP, 0, 0, i));
            }
            for (int round = 0; round < 40; round++) {
                check.no("prep when full", rings.prep(NOP, 0, 0, 0));
                rings.enter(1);
                rings.pop();
                check.yes("prep into the one place that became free", rings.prep(NOP, 0, 0, round));
            }
        }
    }

    private static void anyValueIsAccepted(Check check) {
        for (int opFlags : ANY) {
            for (int value : ANY) {
                AsyncRings rings = new AsyncRings(2, 2, 1);
                check.yes("prep of " + opFlags + " with " + value, rings.prep(opFlags, value, value, value));
                check.yes("prep of " + value + " with " + opFlags, rings.prep(value, opFlags, opFlags, opFlags));
                check.same("sqPending()", rings.sqPending(), 2);
            }
        }
    }

    private static void validityIsJudgedAtTheStart(Check check) {
        AsyncRings rings = new AsyncRings(4, 4, 0);
        rings.prep(TIMEOUT + LINK, 2, 0, 1);
        rings.prep(READ, -1, 99, 2);
        rings.prep(15, 0, 0, 3);
        check.completions("written", rings, 0);
        rings.enter(2);
        check.completions("consumed, but not started", rings, 0);
        check.live("consumed, but not started", rings, 1, 5, 2, 0);
        ticks(rings, 2);
        check.completions("started", rings, 0, 1, OK, 2, INVALID);
        check.same("sqPending()", rings.sqPending(), 1);
        rings.enter(1);
        check.completions("the last one started", rings, 0, 1, OK, 2, INVALID, 3, INVALID);
        // What is wrong is never judged if it is never started.
        rings.pop();
        rings.pop();
        rings.pop();
        rings.prep(15 + LINK, 0, 0, 4);
        rings.prep(READ, -1, 99, 5);
        rings.enter(2);
        check.completions("canceled before its start", rings, 0, 4, INVALID, 5, CANCELED);
    }

    private static void nothingIsConsumedStartedOrPosted(Check check) {
        AsyncRings rings = new AsyncRings(16, 4, 0);
        rings.setBuffer(1, 5);
        int[] opFlags = {NOP, WRITE, READ, CMP, TIMEOUT, CANCEL, 15, NOP + LINK, -1};
        for (int i = 0; i < opFlags.length; i++) {
            rings.prep(opFlags[i], 1, 1, i);
            check.same("sqPending()", rings.sqPending(), i + 1);
            check.live("after prep", rings);
            check.completions("after prep", rings, 0);
        }
        check.same("getBlock(1)", rings.getBlock(1), 0);
        check.same("getBuffer(1)", rings.getBuffer(1), 5);
    }

    private static void nothingElseChanges(Check check) {
        AsyncRings rings = busy();
        stillBusy(check, "after the calls of prep that went before", rings);
        String before = Snapshot.besideSq(rings);
        for (int i = 0; i < 4; i++) {
            // Two are taken, two are refused.
            check.same("prep", rings.prep(i % 2 == 0 ? CANCEL : WRITE, 44, 1, 60) ? 1 : 0, i < 2 ? 1 : 0);
            check.same("sqPending()", rings.sqPending(), Math.min(5, 4 + i));
            check.yes("all beside the SQ is as before", before.equals(Snapshot.besideSq(rings)));
        }
    }

    private static void eachCallWritesOneEntry(Check check) {
        for (int s = 2; s <= 16; s++) {
            for (int written = 1; written <= s; written++) {
                AsyncRings rings = new AsyncRings(s, 16, 0);
                for (int i = 1; i <= written; i++) {
                    rings.prep(NOP, 0, 0, i);
                }
                String what = written + " written into an SQ of " + s;
                check.same(what + ": sqPending()", rings.sqPending(), written);
                check.same(what + ": enter(16)", rings.enter(16), written);
                check.tagsFrom(what, rings, 1, written, 0);
            }
        }
    }

    public static void main(String[] args) {
        Check check = new Check("Promise 2");
        check.sentence("prep(opFlags, a, b, tag) is the process writing one SQ entry and advancing the SQ tail.",
                Promise02PrepTest::eachCallWritesOneEntry);
        check.sentence("Ring full (sqTail - sqHead == S): answers false and nothing changes.",
                Promise02PrepTest::aFullRingRefuses);
        check.sentence("SQ slot (sqTail mod S) gets (opFlags, a, b, tag) exactly as given;",
                Promise02PrepTest::entriesGoRoundAsGiven);
        check.sentence("sqTail grows by 1;", Promise02PrepTest::theTailGrowsByOne);
        check.sentence("answers true.", Promise02PrepTest::theLastFreePlaceIsTaken);
        check.sentence("No value is checked: any opcode bits, flags, arguments and tag are accepted as written.",
                Promise02PrepTest::anyValueIsAccepted);
        check.sentence("Validity is judged only later, when the entry is started.",
                Promise02PrepTest::validityIsJudgedAtTheStart);
        check.sentence("prep never consumes, starts or posts anything.",
                Promise02PrepTest::nothingIsConsumedStartedOrPosted);
        check.sentence("It never changes the CQ, the overflow list, live requests, blocks or buffers.",
                Promise02PrepTest::nothingElseChanges);
        check.end();
    }
}
