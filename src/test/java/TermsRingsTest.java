/** The sentences of "Terms used below" about sizes, counters, entries and requests. */
public final class TermsRingsTest extends Scenes {
    private static int entriesThatFit(AsyncRings rings) {
        int taken = 0;
        while (taken < 100 && rings.prep(NOP, 0, 0, 1)) {
            taken++;
        }
        return taken;
    }

    private static int latencyOf(AsyncRings rings) {
        rings.prep(READ, 0, 0, 1);
        rings.enter(1);
        int seen = rings.liveCount() == 0 ? 0 : rings.liveState(0) / 2;
        ticks(rings, 4);
        return seen;
    }

    private static void sizesStayAsTheyWereGiven(Check check) {
        for (int size = 2; size <= 16; size++) {
            AsyncRings rings = new AsyncRings(size, 18 - size, size % 5);
            for (int round = 0; round < 5; round++) {
                String what = "round " + round + ", sizes " + size + " and " + (18 - size);
                check.same(what + ": latency", latencyOf(rings), size % 5);
                rings.pop();
                check.same(what + ": entries that fit", entriesThatFit(rings), size);
                rings.enter(size);
                check.same(what + ": completions that fit", rings.cqReady(), Math.min(size, 18 - size));
                post(rings, 1, 17);
                check.same(what + ": completions that fit", rings.cqReady(), 18 - size);
                for (int i = 0; i < 48; i++) {
                    rings.pop();
                    rings.enter(0);
                }
            }
        }
    }

    private static void countersGrowByOne(Check check) {
        AsyncRings rings = new AsyncRings(3, 3, 0);
        for (int round = 0; round < 200; round++) {
            for (int i = 1; i <= 3; i++) {
                rings.prep(NOP, 0, 0, 1);
                check.same("sqTail - sqHead after prep " + i, rings.sqPending(), i);
            }
            for (int i = 1; i <= 3; i++) {
                rings.enter(1);
                check.same("sqTail - sqHead after enter " + i, rings.sqPending(), 3 - i);
                check.same("cqTail - cqHead after enter " + i, rings.cqReady(), i);
            }
            for (int i = 1; i <= 3; i++) {
                rings.pop();
                check.same("cqTail - cqHead after pop " + i, rings.cqReady(), 3 - i);
            }
        }
    }

    private static void submissionRingGoesRound(Check check) {
        for (int s = 2; s <= 16; s++) {
            // With every number of entries in the ring, so that each slot is once the first and once the last.
            for (int held = 1; held <= s; held++) {
                AsyncRings rings = new AsyncRings(s, 2, 0);
                for (int tag = 1; tag < held; tag++) {
                    rings.prep(CANCEL, 0, 0, tag);
                }
                for (int tag = held; tag <= held + 50; tag++) {
                    rings.prep(CANCEL, 0, 0, tag);
                    rings.enter(1);
                    check.completions("SQ of " + s + " with " + held, rings, 0, tag - held + 1, NOENT);
                    rings.pop();
                }
            }
        }
    }

    private static void completionRingGoesRound(Check check) {
        for (int c = 2; c <= 16; c++) {
            for (int held = 1; held <= c + 2; held++) {
                AsyncRings rings = new AsyncRings(2, c, 0);
                post(rings, 1, held - 1);
                for (int tag = held; tag <= held + 100; tag++) {
                    post(rings, tag, 1);
                    String what = "CQ of " + c + " with " + held;
                    check.tagsFrom(what, rings, tag - held + 1, Math.min(c, held), Math.max(0, held - c));
                    rings.pop();
                }
            }
        }
    }

    private static void entriesAreStoredAsGiven(Check check) {
        int[] values = {MIN, MIN + 1, -1, 0, 1, 16, MAX - 1, MAX};
        for (int value : values) {
            AsyncRings rings = new AsyncRings(4, 8, 0);
            rings.setBuffer(3, value);
            rings.prep(WRITE, 5, 3, value);
            rings.prep(CMP, 5, value, value);
            rings.prep(CMP, 5, value ^ 1, value);
            rings.prep(TIMEOUT, 9, 0, value);
            rings.enter(4);
            check.completions("b and tag of " + value, rings, 0, value, OK, value, OK, value, MISMATCH);
            check.live("tag of " + value, rings, value, 18);
            rings.prep(CANCEL, value ^ 1, 0, 1);
            rings.prep(CANCEL, value, 0, 2);
            rings.enter(2);
            check.completions("a of " + value, rings, 0, value, OK, value, OK, value, MISMATCH, 1, NOENT,
                    value, CANCELED, 2, 1);
        }
    }

    private static void opcodeIsInTheLowestBits(Check check) {
        int[] above = {0, 32, 64, 1 << 30, MIN, 0xFFFFFFE0, 0x7FFFFFE0};
        for (int bits : above) {
            AsyncRings rings = new AsyncRings(16, 16, 0);
            rings.setBuffer(1, 7);
            rings.prep(bits | NOP, 0, 0, 1);
            rings.prep(bits | WRITE, 2, 1, 2);
            rings.prep(bits | READ, 2, 3, 3);
            rings.prep(bits | CMP, 2, 8, 4);
            rings.prep(bits | TIMEOUT, 4, 0, 5);
            rings.prep(bits | CANCEL, 9, 0, 6);
            rings.prep(bits | 6, 0, 0, 7);
            rings.prep(bits | 8, 0, 0, 8);
            rings.prep(bits | 13, 0, 0, 9);
            rings.prep(bits | 15, 0, 0, 10);
            rings.enter(10);
            check.completions("with the bits " + bits, rings, 0, 1, OK, 2, OK, 3, OK, 4, MISMATCH, 6, NOENT,
                    7, INVALID, 8, INVALID, 9, INVALID, 10, INVALID);
            check.live("with the bits " + bits, rings, 5, 8);
            check.same("getBlock(2) with the bits " + bits, rings.getBlock(2), 7);
            check.same("getBuffer(3) with the bits " + bits, rings.getBuffer(3), 7);
        }
    }

    private static void linkIsOneBit(Check check) {
        for (int bit = 4; bit < 32; bit++) {
            AsyncRings rings = new AsyncRings(4, 4, 0);
            rings.prep((1 << bit) | TIMEOUT, 3, 0, 1);
            rings.prep(NOP, 0, 0, 2);
            rings.enter(2);
            check.live("bit " + bit + " alone", rings, bit == 4 ? new int[] {1, 7, 2, 0} : new int[] {1, 6});
        }
        int[] others = {0xFFFFFFEF, 0x7FFFFFEF, 0, MIN};
        for (int bits : others) {
            AsyncRings rings = new AsyncRings(4, 4, 0);
            rings.prep(bits & ~15 | TIMEOUT, 3, 0, 1);
            rings.prep(NOP, 0, 0, 2);
            rings.prep(bits & ~15 | LINK | TIMEOUT, 3, 0, 3);
            rings.prep(NOP, 0, 0, 4);
            rings.enter(4);
            check.live("the bits " + bits + " without and with the link", rings, 1, 6, 3, 7, 4, 0);
        }
    }

    private static void sequenceGoesOverTheWholeLife(Check check) {
        AsyncRings rings = new AsyncRings(4, 4, 3);
        rings.prep(TIMEOUT, 16, 0, 900);
        rings.enter(1);
        // Many requests come and go; those that are left stay in the order of their consumption.
        for (int round = 1; round <= 5; round++) {
            rings.prep(READ, 0, 0, 100 - round);
            rings.enter(1);
            for (int i = 0; i < 30; i++) {
                post(rings, 1, 1);
                rings.pop();
            }
            check.same("liveTag(0)", rings.liveTag(0), 900);
            check.same("liveTag(1)", rings.liveTag(1), 100 - round);
            ticks(rings, 3);
            check.same("cqTag(0)", rings.cqTag(0), 100 - round);
            rings.pop();
        }
        // At tick 16 all three are due, consumed in three calls: the first of them goes first.
        rings.prep(TIMEOUT, 1, 0, 800);
        rings.enter(1);
        rings.prep(TIMEOUT, 1, 0, 700);
        rings.enter(1);
        check.same("tick()", rings.tick(), 3);
        check.completions("by sequence", rings, 0, 900, OK, 800, OK, 700, OK);
    }

    private static void liveFromConsumptionToPost(Check check) {
        AsyncRings rings = new AsyncRings(4, 2, 1);
        rings.prep(READ + LINK, 0, 0, 1);
        rings.prep(TIMEOUT, 1, 0, 2);
        check.live("written only", rings);
        rings.enter(2);
        check.live("consumed", rings, 1, 3, 2, 0);
        rings.tick();
        check.live("the first is posted", rings, 2, 2);
        post(rings, 3, 2);
        rings.tick();
        check.live("both are posted", rings);
        check.completions("posted, and two of them parked", rings, 2, 1, OK, 3, OK, 4, OK, 2, OK);
    }

    private static void liveOnesAreNumberedFromZero(Check check) {
        AsyncRings rings = new AsyncRings(8, 8, 0);
        rings.prep(TIMEOUT + LINK, 3, 0, 9);
        rings.prep(NOP, 0, 0, 8);
        rings.prep(TIMEOUT, 1, 0, 7);
        rings.prep(TIMEOUT, 2, 0, 6);
        rings.enter(4);
        check.live("all", rings, 9, 7, 8, 0, 7, 2, 6, 4);
        rings.prep(TIMEOUT, 1, 0, 5);
        rings.enter(1);
        check.live("one more", rings, 9, 7, 8, 0, 7, 2, 6, 4, 5, 2);
        rings.tick();
        check.live("after a tick", rings, 9, 5, 8, 0, 6, 2);
        rings.tick();
        check.live("after two", rings, 9, 3, 8, 0);
    }

    private static void eachConsumedEntryBecomesARequest(Check check) {
        for (int n = 1; n <= 16; n++) {
            AsyncRings rings = new AsyncRings(16, 4, 1);
            for (int i = 1; i <= 16; i++) {
                rings.prep(TIMEOUT, 16, 0, i);
                rings.tick();
                rings.pop();
                check.live("before enter there is none", rings);
            }
            rings.enter(n);
            check.same("liveCount() after enter(" + n + ")", rings.liveCount(), n);
            for (int k = 0; k < n; k++) {
                check.same("liveTag(" + k + ") after enter(" + n + ")", rings.liveTag(k), 1 + k);
            }
        }
    }

    private static void aRequestKeepsItsArguments(Check check) {
        for (int s = 2; s <= 16; s++) {
            AsyncRings rings = new AsyncRings(s, 4, 1);
            fillBuffers(rings, 10);
            rings.prep(TIMEOUT + LINK, 1, 0, MIN);
            rings.prep(WRITE, 5, 3, MAX);
            rings.enter(2);
            // The slots that the two stood in get other entries before the second one is started.
            for (int i = 0; i < s; i++) {
                rings.prep(READ, 6, 4, 9);
            }
            ticks(rings, 2);
            check.completions("SQ of " + s, rings, 0, MIN, OK, MAX, OK);
            for (int i = 0; i < 16; i++) {
                check.same("SQ of " + s + ": getBlock(" + i + ")", rings.getBlock(i), i == 5 ? 13 : 0);
            }
        }
    }

    private static void waitingOrPendingWithTicks(Check check) {
        AsyncRings rings = new AsyncRings(4, 4, 2);
        rings.prep(READ + LINK, 0, 0, 1);
        rings.prep(TIMEOUT, 3, 0, 2);
        rings.enter(2);
        int[] first = {5, 3};
        for (int state : first) {
            check.live("the second is WAITING", rings, 1, state, 2, 0);
            rings.tick();
        }
        int[] second = {6, 4, 2};
        for (int state : second) {
            check.live("the second is PENDING", rings, 2, state);
            rings.tick();
        }
        check.live("both are posted", rings);
    }

    private static void atMostOneSuccessor(Check check) {
        AsyncRings rings = new AsyncRings(8, 8, 1);
        for (int tag = 1; tag <= 4; tag++) {
            rings.prep(READ + (tag < 4 ? LINK : 0), 0, 0, tag);
        }
        rings.prep(READ, 0, 0, 5);
        rings.enter(5);
        check.live("three with a successor, two without", rings, 1, 3, 2, 1, 3, 1, 4, 0, 5, 2);
        rings.tick();
        check.live("one is started, not all that follow", rings, 2, 3, 3, 1, 4, 0);
        rings.tick();
        check.live("and one more", rings, 3, 3, 4, 0);
        rings.tick();
        check.live("and the last", rings, 4, 2);
    }

    public static void main(String[] args) {
        Check check = new Check("Terms, sizes and counters");
        check.sentence("S is the SQ capacity, C the CQ capacity, and L the device latency, all fixed by the"
                + " constructor.", TermsRingsTest::sizesStayAsTheyWereGiven);
        check.sentence("The counters sqHead, sqTail, cqHead and cqTail start at 0 and only ever grow by 1 at a time.",
                TermsRingsTest::countersGrowByOne);
        check.sentence("SQ position x lives in SQ slot (x mod S).", TermsRingsTest::submissionRingGoesRound);
        check.sentence("CQ position x lives in CQ slot (x mod C).", TermsRingsTest::completionRingGoesRound);
        check.sentence("An SQ entry is (opFlags, a, b, tag), stored exactly as given to prep.",
                TermsRingsTest::entriesAreStoredAsGiven);

        check.part("Terms, request");
        check.sentence("A request is made when the kernel consumes an SQ entry (see enter).",
                TermsRingsTest::eachConsumedEntryBecomesARequest);
        check.sentence("opcode = opFlags & OP_MASK;", TermsRingsTest::opcodeIsInTheLowestBits);
        check.sentence("link = (opFlags & FLAG_LINK) != 0;", TermsRingsTest::linkIsOneBit);
        check.sentence("a, b and tag;", TermsRingsTest::aRequestKeepsItsArguments);
        check.sentence("a sequence number, which is the consumption order over the object's whole life;",
                TermsRingsTest::sequenceGoesOverTheWholeLife);
        check.sentence("a state: WAITING, or PENDING with a count of remaining ticks;",
                TermsRingsTest::waitingOrPendingWithTicks);
        check.sentence("a successor: none, or one request.", TermsRingsTest::atMostOneSuccessor);
        check.sentence("A request is LIVE from its consumption until it is posted.",
                TermsRingsTest::liveFromConsumptionToPost);
        check.sentence("Live requests are listed in ascending sequence number and numbered by live index 0, 1, ...",
                TermsRingsTest::liveOnesAreNumberedFromZero);
        check.end();
    }
}
